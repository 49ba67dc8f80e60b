/-! what each function leaves as it was (made by frames2.py) -/
theorem hz_r20 : hz_rf 20 2 = 24 := rfl
theorem fr_La_addCode (o0 : Nat) (v1 : Int32) (s0 : Sg) : fP prV [(hz_rf o0 1)] [(o0, 3)] s0 (fLa_addCode o0 v1 s0) := by
  unfold fLa_addCode
  exact (fp_ite (fp_sm rfl) (fp_gd (fp_ptA (by simp) (fun s1 => (fp_ptF (by simp) (fun s2 => (fp_sm rfl)))))))
theorem fr_La_joined (v0 : Int32) (v1 : Int32) (v2 : Int32) (s0 : Sg) : fP prI [] [] s0 (fLa_joined v0 v1 v2 s0) := by
  unfold fLa_joined
  exact (fp_ite (fp_sm rfl) (fp_ite (fp_sm rfl) (fp_ite (fp_sm rfl) (fp_ite (fp_ite (fp_sm rfl) (fp_sm rfl)) (fp_ite (fp_ite (fp_sm rfl) (fp_sm rfl)) (fp_ite (fp_ite (fp_sm rfl) (fp_sm rfl)) (fp_ite (fp_sm rfl) (fp_sm rfl))))))))
theorem fr_Mu_takeCover (v1 : Int32) (v2 : Int32) (s0 : Sg) : fP prV [] [(66, 7), (66, 8)] s0 (fMu_takeCover v1 v2 s0) := by
  unfold fMu_takeCover
  exact (fp_j0 (fun s1 => (fp_ptF (by decide) (fun s2 => (fp_ptF (by decide) (fun s3 => (fp_sm rfl)))))) (fun j32 h_j32 => (fp_ite (h_j32 _) (fp_ite (h_j32 _) (fp_ite (fp_ite (fp_sm rfl) (h_j32 _)) (fp_sm rfl))))))
theorem fr_Mu_choices (v0 : Int32) (v1 : Int32) (s0 : Sg) : fP prI [] [] s0 (fMu_choices v0 v1 s0) := by
  unfold fMu_choices
  exact (fp_lq (fun q4 h_q4 u4 s1 => (fp_ite (fp_sm rfl) (fp_gz (fp_nm (fun x2 => (h_q4 _ _)))))))
theorem fr_Pa_forget (s0 : Sg) : fP prV [] [(5, 2)] s0 (fPa_forget s0) := by
  unfold fPa_forget
  exact (fp_ptF (by decide) (fun s1 => (fp_sm rfl)))
theorem fr_Re_keywordsOf (v0 : Int32) (s0 : Sg) : fP prR [] [] s0 (fRe_keywordsOf v0 s0) := by
  unfold fRe_keywordsOf
  exact (fp_ite (fp_sm rfl) (fp_ite (fp_sm rfl) (fp_ite (fp_sm rfl) (fp_sm rfl))))
theorem fr_Re_wrong (v1 : Int32) (s0 : Sg) : fP prI [] [(30, 3), (30, 4)] s0 (fRe_wrong v1 s0) := by
  unfold fRe_wrong
  exact (fp_ptF (by decide) (fun s1 => (fp_ptF (by decide) (fun s2 => (fp_gb (fp_sm rfl))))))
theorem fr_Re_waitingLast (s0 : Sg) : fP prI [] [] s0 (fRe_waitingLast s0) := by
  unfold fRe_waitingLast
  exact (fp_ite (fp_sm rfl) (fp_ite (fp_sm rfl) (fp_gd (fp_sm rfl))))
theorem fr_Re_closeness (v0 : Int32) (s0 : Sg) : fP prI [] [] s0 (fRe_closeness v0 s0) := by
  unfold fRe_closeness
  exact (fp_ite (fp_sm rfl) (fp_ite (fp_sm rfl) (fp_ite (fp_sm rfl) (fp_ite (fp_sm rfl) (fp_ite (fp_sm rfl) (fp_ite (fp_sm rfl) (fp_sm rfl)))))))
theorem fr_Re_addSum (v1 : Int32) (s0 : Sg) : fP prV [40] [(37, 3)] s0 (fRe_addSum v1 s0) := by
  unfold fRe_addSum
  exact (fp_ite (fp_sm rfl) (fp_bv (fr_La_addCode _ _ _) (by first | decide | simp [hz_r20]) (by first | decide | simp [hz_r20]) (fun s1 => (fp_sm rfl))))
theorem fr_Sc_become (o0 : Nat) (o1 : Nat) (s0 : Sg) : fP prV [(hz_rf o0 0)] [(o0, 1), (o0, 2), (o0, 3), (o0, 4), (o0, 5), (o0, 6), (o0, 7), (o0, 8), (o0, 9), (o0, 10), (o0, 11), (o0, 12)] s0 (fSc_become o0 o1 s0) := by
  unfold fSc_become
  exact (fp_bv fp_cpy (by first | decide | simp [hz_r20]) (List.forall_mem_nil _) (fun s1 => (fp_ptF (by simp) (fun s2 => (fp_ptF (by simp) (fun s3 => (fp_ptF (by simp) (fun s4 => (fp_ptF (by simp) (fun s5 => (fp_ptF (by simp) (fun s6 => (fp_ptF (by simp) (fun s7 => (fp_ptF (by simp) (fun s8 => (fp_ptF (by simp) (fun s9 => (fp_ptF (by simp) (fun s10 => (fp_ptF (by simp) (fun s11 => (fp_ptF (by simp) (fun s12 => (fp_ptF (by simp) (fun s13 => (fp_sm rfl)))))))))))))))))))))))))))
theorem fr_Sc_has (o0 : Nat) (v1 : Int32) (s0 : Sg) : fP prI [] [] s0 (fSc_has o0 v1 s0) := by
  unfold fSc_has
  exact (fp_ite (fp_gb (fp_sm rfl)) (fp_ite (fp_gb (fp_sm rfl)) (fp_gb (fp_sm rfl))))
theorem fr_Sc_tell (o0 : Nat) (v1 : Int32) (v2 : Int32) (s0 : Sg) : fP prI [] [] s0 (fSc_tell o0 v1 v2 s0) := by
  unfold fSc_tell
  exact (fp_ite (fp_sm rfl) (fp_ite (fp_sm rfl) (fp_ite (fp_sm rfl) (fp_ite (fp_gd (fp_sm rfl)) (fp_sm rfl)))))
theorem fr_Sc_put (o0 : Nat) (v1 : Int32) (v2 : Int32) (v3 : Int32) (s0 : Sg) : fP prV [(hz_rf o0 0)] [] s0 (fSc_put o0 v1 v2 v3 s0) := by
  unfold fSc_put
  exact (fp_ite (fp_sm rfl) (fp_ite (fp_sm rfl) (fp_ite (fp_sm rfl) (fp_ite (fp_sm rfl) (fp_gd (fp_ptA (by simp) (fun s1 => (fp_sm rfl))))))))
theorem fr_Sc_isUp (o0 : Nat) (v1 : Int32) (s0 : Sg) : fP prI [] [] s0 (fSc_isUp o0 v1 s0) := by
  unfold fSc_isUp
  exact (fp_bi (fr_Sc_tell _ _ _ _) (List.forall_mem_nil _) (List.forall_mem_nil _) (fun r2 s1 => (fp_ite (fp_gb (fp_sm rfl)) (fp_gb (fp_sm rfl)))))
theorem fr_Sc_manyUp (o0 : Nat) (s0 : Sg) : fP prI [] [] s0 (fSc_manyUp o0 s0) := by
  unfold fSc_manyUp
  exact (fp_lq (fun q4 h_q4 u4 s1 => (fp_ite (fp_sm rfl) (fp_ite (fp_sm rfl) (fp_gd (fp_j1 (fun a38_1 s2 => (h_q4 _ _)) (fun j38 h_j38 => (fp_ite (h_j38 _ _) (h_j38 _ _)))))))))
theorem fr_Sc_allBreath (o0 : Nat) (s0 : Sg) : fP prI [] [] s0 (fSc_allBreath o0 s0) := by
  unfold fSc_allBreath
  exact (fp_lq (fun q4 h_q4 u4 s1 => (fp_ite (fp_sm rfl) (fp_bi (fr_Sc_tell _ _ _ _) (List.forall_mem_nil _) (List.forall_mem_nil _) (fun r3 s2 => (h_q4 _ _))))))
theorem fr_Sc_letGo (o0 : Nat) (v1 : Int32) (v2 : Int32) (s0 : Sg) : fP prV [(hz_rf o0 0)] [] s0 (fSc_letGo o0 v1 v2 s0) := by
  unfold fSc_letGo
  exact (fp_bv (fr_Sc_put _ _ _ _ _) (by first | decide | simp [hz_r20]) (List.forall_mem_nil _) (fun s1 => (fp_bv (fr_Sc_put _ _ _ _ _) (by first | decide | simp [hz_r20]) (List.forall_mem_nil _) (fun s2 => (fp_sm rfl)))))
theorem fr_Sc_sendHome (o0 : Nat) (v1 : Int32) (s0 : Sg) : fP prV [(hz_rf o0 0)] [] s0 (fSc_sendHome o0 v1 s0) := by
  unfold fSc_sendHome
  exact (fp_bv (fr_Sc_put _ _ _ _ _) (by first | decide | simp [hz_r20]) (List.forall_mem_nil _) (fun s1 => (fp_bv (fr_Sc_put _ _ _ _ _) (by first | decide | simp [hz_r20]) (List.forall_mem_nil _) (fun s2 => (fp_bv (fr_Sc_put _ _ _ _ _) (by first | decide | simp [hz_r20]) (List.forall_mem_nil _) (fun s3 => (fp_sm rfl)))))))
theorem fr_Sc_say (o0 : Nat) (v1 : Int32) (v2 : Int32) (s0 : Sg) : fP prV [(hz_rf o0 0)] [(o0, 4), (o0, 5)] s0 (fSc_say o0 v1 v2 s0) := by
  unfold fSc_say
  exact (fp_ptF (by simp) (fun s1 => (fp_ptF (by simp) (fun s2 => (fp_bi (fr_Sc_tell _ _ _ _) (List.forall_mem_nil _) (List.forall_mem_nil _) (fun r4 s3 => (fp_bv (fr_Sc_put _ _ _ _ _) (by first | decide | simp [hz_r20]) (List.forall_mem_nil _) (fun s5 => (fp_sm rfl)))))))))
theorem fr_Sc_draw (o0 : Nat) (v1 : Int32) (s0 : Sg) : fP prI [] [(o0, 11)] s0 (fSc_draw o0 v1 s0) := by
  unfold fSc_draw
  exact (fp_ptF (by simp) (fun s1 => (fp_ite (fp_sm rfl) (fp_gz (fp_sm rfl)))))
theorem fr_Sc_turnClock (o0 : Nat) (s0 : Sg) : fP prV [] [(o0, 4), (o0, 5), (o0, 9), (o0, 10)] s0 (fSc_turnClock o0 s0) := by
  unfold fSc_turnClock
  exact (fp_ptF (by simp) (fun s1 => (fp_ite (fp_sm rfl) (fp_ptF (by simp) (fun s2 => (fp_ptF (by simp) (fun s3 => (fp_ptF (by simp) (fun s4 => (fp_ptF (by simp) (fun s5 => (fp_sm rfl))))))))))))
theorem fr_Ta_holds (o0 : Nat) (v1 : Int32) (v2 : Int32) (s0 : Sg) : fP prI [] [] s0 (fTa_holds o0 v1 v2 s0) := by
  unfold fTa_holds
  exact (fp_ite (fp_gb (fp_sm rfl)) (fp_ite (fp_gb (fp_sm rfl)) (fp_ite (fp_gb (fp_sm rfl)) (fp_ite (fp_gb (fp_sm rfl)) (fp_gb (fp_sm rfl))))))
theorem fr_Ta_empty (o0 : Nat) (s0 : Sg) : fP prI [] [(o0, 3)] s0 (fTa_empty o0 s0) := by
  unfold fTa_empty
  exact (fp_ptF (by simp) (fun s1 => (fp_sm rfl)))
theorem fr_Te_linesOf (o0 : Nat) (v1 : Int32) (s0 : Sg) : fP prI [] [] s0 (fTe_linesOf o0 v1 s0) := by
  unfold fTe_linesOf
  exact (fp_ite (fp_sm rfl) (fp_ite (fp_sm rfl) (fp_ite (fp_sm rfl) (fp_sm rfl))))
theorem fr_Te_answered (o0 : Nat) (v1 : Int32) (s0 : Sg) : fP prI [] [] s0 (fTe_answered o0 v1 s0) := by
  unfold fTe_answered
  exact (fp_ite (fp_sm rfl) (fp_ite (fp_sm rfl) (fp_gd (fp_sm rfl))))
theorem fr_To_addByte (v1 : Int32) (s0 : Sg) : fP prV [32] [(31, 4)] s0 (fTo_addByte v1 s0) := by
  unfold fTo_addByte
  exact (fp_ite (fp_sm rfl) (fp_ite (fp_sm rfl) (fp_gd (fp_ptA (by decide) (fun s1 => (fp_ptF (by decide) (fun s2 => (fp_sm rfl))))))))
theorem fr_To_addToken (v1 : Int32) (v2 : Int32) (v3 : Int32) (s0 : Sg) : fP prV [33, 34, 35] [(31, 5)] s0 (fTo_addToken v1 v2 v3 s0) := by
  unfold fTo_addToken
  exact (fp_ite (fp_sm rfl) (fp_ite (fp_sm rfl) (fp_gd (fp_ptA (by decide) (fun s1 => (fp_gd (fp_ptA (by decide) (fun s2 => (fp_gd (fp_ptA (by decide) (fun s3 => (fp_ptF (by decide) (fun s4 => (fp_sm rfl))))))))))))))
theorem fr_To_advance (s0 : Sg) : fP prV [] [(31, 6), (31, 7), (31, 8), (31, 9)] s0 (fTo_advance s0) := by
  unfold fTo_advance
  exact (fp_j0 (fun s1 => (fp_ite (fp_sm rfl) (fp_ite (fp_sm rfl) (fp_gd (fp_ptF (by decide) (fun s2 => (fp_gd (fp_ptF (by decide) (fun s3 => (fp_gd (fp_ptF (by decide) (fun s4 => (fp_sm rfl))))))))))))) (fun j23 h_j23 => (fp_ite (h_j23 _) (fp_ptF (by decide) (fun s5 => (h_j23 _))))))
theorem fr_To_signAt (v1 : Int32) (s0 : Sg) : fP prI [] [] s0 (fTo_signAt v1 s0) := by
  unfold fTo_signAt
  exact (fp_ite (fp_sm rfl) (fp_ite (fp_sm rfl) (fp_gd (fp_sm rfl))))
theorem fr_To_isBlank (v0 : Int32) (s0 : Sg) : fP prI [] [] s0 (fTo_isBlank v0 s0) := by
  unfold fTo_isBlank
  exact (fp_j0 (fun s1 => (fp_gb (fp_sm rfl))) (fun j12 h_j12 => (fp_ite (h_j12 _) (fp_ite (h_j12 _) (fp_gb (fp_sm rfl))))))
theorem fr_H_within (v0 : Int32) (v1 : Int32) (v2 : Int32) (s0 : Sg) : fP prI [] [] s0 (fH_within v0 v1 v2 s0) := by
  unfold fH_within
  exact (fp_ite (fp_gb (fp_sm rfl)) (fp_ite (fp_gb (fp_sm rfl)) (fp_gb (fp_sm rfl))))
theorem fr_H_isWord (v0 : Int32) (s0 : Sg) : fP prI [] [] s0 (fH_isWord v0 s0) := by
  unfold fH_isWord
  exact (fp_bi (fr_H_within _ _ _ _) (List.forall_mem_nil _) (List.forall_mem_nil _) (fun r2 s1 => (fp_gb (fp_sm rfl))))
theorem fr_H_isQuestion (v0 : Int32) (s0 : Sg) : fP prI [] [] s0 (fH_isQuestion v0 s0) := by
  unfold fH_isQuestion
  exact (fp_bi (fr_H_within _ _ _ _) (List.forall_mem_nil _) (List.forall_mem_nil _) (fun r2 s1 => (fp_gb (fp_sm rfl))))
theorem fr_H_allowed (v0 : Int32) (v1 : Int32) (s0 : Sg) : fP prI [] [] s0 (fH_allowed v0 v1 s0) := by
  unfold fH_allowed
  exact (fp_bi (fr_H_within _ _ _ _) (List.forall_mem_nil _) (List.forall_mem_nil _) (fun r2 s1 => (fp_ite (fp_gb (fp_sm rfl)) (fp_gd (fp_gd (fp_bi (fr_H_within _ _ _ _) (List.forall_mem_nil _) (List.forall_mem_nil _) (fun r4 s3 => (fp_ite (fp_gb (fp_sm rfl)) (fp_gb (fp_sm rfl))))))))))
theorem fr_H_state (v1 : Int32) (s0 : Sg) : fP prI [] [(1, 11), (5, 2)] s0 (fH_state v1 s0) := by
  unfold fH_state
  exact (fp_ptF (by decide) (fun s1 => (fp_bv (fr_Pa_forget _) (List.forall_mem_nil _) (by decide) (fun s2 => (fp_sm rfl)))))
theorem fr_H_person (v1 : Int32) (v2 : Int32) (v3 : Int32) (s0 : Sg) : fP prI [2] [(1, 1), (5, 2)] s0 (fH_person v1 v2 v3 s0) := by
  unfold fH_person
  exact (fp_bi (fr_H_allowed _ _ _) (List.forall_mem_nil _) (List.forall_mem_nil _) (fun r2 s1 => (fp_j1 (fun b29_0 s3 => (fp_ite (fp_sm rfl) (fp_ite (fp_ptF (by decide) (fun s4 => (fp_bv (fr_Sc_put _ _ _ _ _) (by first | decide | simp [hz_r20]) (List.forall_mem_nil _) (fun s5 => (fp_bv (fr_Sc_put _ _ _ _ _) (by first | decide | simp [hz_r20]) (List.forall_mem_nil _) (fun s6 => (fp_bv (fr_Sc_put _ _ _ _ _) (by first | decide | simp [hz_r20]) (List.forall_mem_nil _) (fun s7 => (fp_bv (fr_Sc_put _ _ _ _ _) (by first | decide | simp [hz_r20]) (List.forall_mem_nil _) (fun s8 => (fp_bv (fr_Sc_sendHome _ _ _) (by first | decide | simp [hz_r20]) (List.forall_mem_nil _) (fun s9 => (fp_bv (fr_Sc_put _ _ _ _ _) (by first | decide | simp [hz_r20]) (List.forall_mem_nil _) (fun s10 => (fp_bv (fr_Pa_forget _) (List.forall_mem_nil _) (by decide) (fun s11 => (fp_sm rfl))))))))))))))))) (fp_sm rfl)))) (fun j29 h_j29 => (fp_j0 (fun s12 => (h_j29 _ _)) (fun j28 h_j28 => (fp_ite (h_j28 _) (fp_bi (fr_H_allowed _ _ _) (List.forall_mem_nil _) (List.forall_mem_nil _) (fun r14 s13 => (fp_ite (h_j28 _) (fp_bi (fr_H_allowed _ _ _) (List.forall_mem_nil _) (List.forall_mem_nil _) (fun r16 s15 => (fp_ite (h_j28 _) (h_j29 _ _))))))))))))))
theorem fr_H_set (v1 : Int32) (v2 : Int32) (v3 : Int32) (s0 : Sg) : fP prI [2] [(1, 2), (1, 8), (5, 2)] s0 (fH_set v1 v2 v3 s0) := by
  unfold fH_set
  exact (fp_j1 (fun a97_4 s1 => (fp_ite (fp_gb (fp_sm rfl)) (fp_bv (fr_Pa_forget _) (List.forall_mem_nil _) (by decide) (fun s2 => (fp_gb (fp_sm rfl)))))) (fun j97 h_j97 => (fp_j0 (fun s3 => (fp_j0 (fun s4 => (fp_bi (fr_H_allowed _ _ _) (List.forall_mem_nil _) (List.forall_mem_nil _) (fun r6 s5 => (fp_ite (h_j97 _ _) (fp_bi (fr_Sc_has _ _ _) (List.forall_mem_nil _) (List.forall_mem_nil _) (fun r8 s7 => (fp_ite (h_j97 _ _) (fp_bv (fr_Sc_put _ _ _ _ _) (by first | decide | simp [hz_r20]) (List.forall_mem_nil _) (fun s9 => (h_j97 _ _)))))))))) (fun j65 h_j65 => (fp_ite (fp_j0 (fun s10 => (fp_ptF (by decide) (fun s11 => (h_j97 _ _)))) (fun j51 h_j51 => (fp_ite (h_j51 _) (fp_bi (fr_H_isWord _ _) (List.forall_mem_nil _) (List.forall_mem_nil _) (fun r13 s12 => (fp_ite (h_j65 _) (h_j51 _))))))) (h_j65 _))))) (fun j33 h_j33 => (fp_ite (fp_bi (fr_H_within _ _ _ _) (List.forall_mem_nil _) (List.forall_mem_nil _) (fun r15 s14 => (fp_ite (h_j33 _) (fp_ptF (by decide) (fun s16 => (h_j97 _ _)))))) (h_j33 _))))))
theorem fr_H_end (v1 : Int32) (s0 : Sg) : fP prI [] [(31, 4)] s0 (fH_end v1 s0) := by
  unfold fH_end
  exact (fp_ite (fp_gb (fp_sm rfl)) (fp_ite (fp_ptF (by decide) (fun s1 => (fp_gb (fp_sm rfl)))) (fp_gb (fp_sm rfl))))
theorem fr_H_fault (v1 : Int32) (s0 : Sg) : fP prI [] [] s0 (fH_fault v1 s0) := by
  unfold fH_fault
  exact (fp_ite (fp_sm rfl) (fp_ite (fp_sm rfl) (fp_sm rfl)))
theorem fr_H_rule (v1 : Int32) (v2 : Int32) (v3 : Int32) (s0 : Sg) : fP prI [] [(48, 7), (48, 8), (48, 9)] s0 (fH_rule v1 v2 v3 s0) := by
  unfold fH_rule
  exact (fp_bi (fr_H_within _ _ _ _) (List.forall_mem_nil _) (List.forall_mem_nil _) (fun r2 s1 => (fp_ite (fp_gb (fp_sm rfl)) (fp_bi (fr_H_within _ _ _ _) (List.forall_mem_nil _) (List.forall_mem_nil _) (fun r4 s3 => (fp_ite (fp_gb (fp_sm rfl)) (fp_bi (fr_H_within _ _ _ _) (List.forall_mem_nil _) (List.forall_mem_nil _) (fun r6 s5 => (fp_ite (fp_gb (fp_sm rfl)) (fp_ptF (by decide) (fun s7 => (fp_ptF (by decide) (fun s8 => (fp_ptF (by decide) (fun s9 => (fp_gb (fp_sm rfl)))))))))))))))))
theorem fr_H_look (v1 : Int32) (s0 : Sg) : fP prI [] [] s0 (fH_look v1 s0) := by
  unfold fH_look
  exact (fp_ite (fp_sm rfl) (fp_ite (fp_sm rfl) (fp_ite (fp_sm rfl) (fp_ite (fp_sm rfl) (fp_ite (fp_sm rfl) (fp_ite (fp_sm rfl) (fp_ite (fp_sm rfl) (fp_ite (fp_sm rfl) (fp_ite (fp_sm rfl) (fp_ite (fp_sm rfl) (fp_ite (fp_bi (fr_H_within _ _ _ _) (List.forall_mem_nil _) (List.forall_mem_nil _) (fun r18 s17 => (fp_ite (fp_sm rfl) (fp_bi (fr_Te_linesOf _ _ _) (List.forall_mem_nil _) (List.forall_mem_nil _) (fun r20 s19 => (fp_sm rfl)))))) (fp_ite (fp_bi (fr_H_within _ _ _ _) (List.forall_mem_nil _) (List.forall_mem_nil _) (fun r14 s13 => (fp_ite (fp_sm rfl) (fp_bi (fr_Te_linesOf _ _ _) (List.forall_mem_nil _) (List.forall_mem_nil _) (fun r16 s15 => (fp_sm rfl)))))) (fp_ite (fp_bi (fr_H_within _ _ _ _) (List.forall_mem_nil _) (List.forall_mem_nil _) (fun r10 s9 => (fp_ite (fp_sm rfl) (fp_bi (fr_Te_linesOf _ _ _) (List.forall_mem_nil _) (List.forall_mem_nil _) (fun r12 s11 => (fp_sm rfl)))))) (fp_ite (fp_bi (fr_H_within _ _ _ _) (List.forall_mem_nil _) (List.forall_mem_nil _) (fun r6 s5 => (fp_ite (fp_sm rfl) (fp_bi (fr_Te_linesOf _ _ _) (List.forall_mem_nil _) (List.forall_mem_nil _) (fun r8 s7 => (fp_sm rfl)))))) (fp_ite (fp_sm rfl) (fp_bi (fr_H_within _ _ _ _) (List.forall_mem_nil _) (List.forall_mem_nil _) (fun r2 s1 => (fp_ite (fp_sm rfl) (fp_bi (fr_Te_linesOf _ _ _) (List.forall_mem_nil _) (List.forall_mem_nil _) (fun r4 s3 => (fp_sm rfl)))))))))))))))))))))
theorem fr_M_isIn (v1 : Int32) (v2 : Int32) (v3 : Int32) (s0 : Sg) : fP prI [] [] s0 (fM_isIn v1 v2 v3 s0) := by
  unfold fM_isIn
  exact (fp_ite (fp_gb (fp_sm rfl)) (fp_ite (fp_gb (fp_sm rfl)) (fp_gb (fp_sm rfl))))
theorem fr_M_held (v1 : Int32) (v2 : Int32) (v3 : Int32) (s0 : Sg) : fP prI [] [] s0 (fM_held v1 v2 v3 s0) := by
  unfold fM_held
  exact (fp_ite (fp_ite (fp_sm rfl) (fp_sm rfl)) (fp_sm rfl))
theorem fr_M_greater (v1 : Int32) (v2 : Int32) (s0 : Sg) : fP prI [] [] s0 (fM_greater v1 v2 s0) := by
  unfold fM_greater
  exact (fp_ite (fp_sm rfl) (fp_sm rfl))
theorem fr_M_lesser (v1 : Int32) (v2 : Int32) (s0 : Sg) : fP prI [] [] s0 (fM_lesser v1 v2 s0) := by
  unfold fM_lesser
  exact (fp_ite (fp_sm rfl) (fp_sm rfl))
theorem fr_M_onesOf (v1 : Int32) (s0 : Sg) : fP prI [] [] s0 (fM_onesOf v1 s0) := by
  unfold fM_onesOf
  exact (fp_lq (fun q4 h_q4 u4 s1 => (fp_ite (fp_sm rfl) (h_q4 _ _))))
theorem fr_M_has (v1 : Int32) (v2 : Int32) (s0 : Sg) : fP prI [] [] s0 (fM_has v1 v2 s0) := by
  unfold fM_has
  exact (fp_ite (fp_gb (fp_sm rfl)) (fp_gb (fp_sm rfl)))
theorem fr_M_keepsAhead (s0 : Sg) : fP prV [104] [(102, 3)] s0 (fM_keepsAhead s0) := by
  unfold fM_keepsAhead
  exact (fp_j0 (fun s1 => (fp_lq (fun q55 h_q55 u55 s2 => (fp_ite (fp_ptF (by decide) (fun s3 => (fp_sm rfl))) (fp_gd (fp_gd (fp_ptA (by decide) (fun s4 => (h_q55 _ _))))))))) (fun j53 h_j53 => (fp_ite (fp_ptF (by decide) (fun s5 => (fp_lq (fun q21 h_q21 u21 s6 => (fp_ite (h_j53 _) (fp_gd (fp_gd (fp_ptA (by decide) (fun s7 => (h_q21 _ _)))))))))) (h_j53 _))))
theorem fr_M_undo (s0 : Sg) : fP prI [103] [(102, 0), (102, 3)] s0 (fM_undo s0) := by
  unfold fM_undo
  exact (fp_ptF (by decide) (fun s1 => (fp_ite (fp_gb (fp_sm rfl)) (fp_ptF (by decide) (fun s2 => (fp_lq (fun q26 h_q26 u26 s3 => (fp_ite (fp_gb (fp_sm rfl)) (fp_gd (fp_gd (fp_ptA (by decide) (fun s4 => (h_q26 _ _)))))))))))))
theorem fr_M_thinks (s0 : Sg) : fP prV [105] [(102, 5)] s0 (fM_thinks s0) := by
  unfold fM_thinks
  exact (fp_lq (fun q2 h_q2 u2 s1 => (fp_ite (fp_gb (fp_ptF (by decide) (fun s2 => (fp_sm rfl)))) (fp_gd (fp_gd (fp_ptA (by decide) (fun s3 => (h_q2 _ _))))))))
theorem fr_M_endsThought (s0 : Sg) : fP prV [103] [(102, 5)] s0 (fM_endsThought s0) := by
  unfold fM_endsThought
  exact (fp_lq (fun q2 h_q2 u2 s1 => (fp_ite (fp_gb (fp_ptF (by decide) (fun s2 => (fp_sm rfl)))) (fp_gd (fp_gd (fp_ptA (by decide) (fun s3 => (h_q2 _ _))))))))
theorem fr_M_state (v1 : Int32) (s0 : Sg) : fP prI [103] [(102, 0), (102, 3)] s0 (fM_state v1 s0) := by
  unfold fM_state
  exact (fp_ptF (by decide) (fun s1 => (fp_gd (fp_gd (fp_ptA (by decide) (fun s2 => (fp_ptF (by decide) (fun s3 => (fp_sm rfl)))))))))
theorem fr_M_draw (v1 : Int32) (s0 : Sg) : fP prI [103] [] s0 (fM_draw v1 s0) := by
  unfold fM_draw
  exact (fp_gd (fp_gd (fp_ptA (by decide) (fun s1 => (fp_gd (fp_gz (fp_sm rfl)))))))
theorem fr_M_isPerson (v1 : Int32) (s0 : Sg) : fP prI [] [] s0 (fM_isPerson v1 s0) := by
  unfold fM_isPerson
  exact (fp_ite (fp_gb (fp_sm rfl)) (fp_ite (fp_gb (fp_sm rfl)) (fp_gb (fp_sm rfl))))
theorem fr_M_sunset (s0 : Sg) : fP prI [] [] s0 (fM_sunset s0) := by
  unfold fM_sunset
  exact (fp_gd (fp_sm rfl))
theorem fr_M_breathOf (v1 : Int32) (s0 : Sg) : fP prI [] [] s0 (fM_breathOf v1 s0) := by
  unfold fM_breathOf
  exact (fp_gd (fp_sm rfl))
theorem fr_M_hasBreath (v1 : Int32) (v2 : Int32) (s0 : Sg) : fP prV [103] [] s0 (fM_hasBreath v1 v2 s0) := by
  unfold fM_hasBreath
  exact (fp_bi (fr_M_held _ _ _ _) (List.forall_mem_nil _) (List.forall_mem_nil _) (fun r2 s1 => (fp_gd (fp_ptA (by decide) (fun s3 => (fp_sm rfl))))))
theorem fr_M_isGoing (v1 : Int32) (s0 : Sg) : fP prI [] [] s0 (fM_isGoing v1 s0) := by
  unfold fM_isGoing
  exact (fp_gd (fp_ite (fp_gb (fp_sm rfl)) (fp_gb (fp_sm rfl))))
theorem fr_M_isUp (v1 : Int32) (s0 : Sg) : fP prI [] [] s0 (fM_isUp v1 s0) := by
  unfold fM_isUp
  exact (fp_gd (fp_ite (fp_gb (fp_sm rfl)) (fp_gb (fp_sm rfl))))
theorem fr_M_person (v1 : Int32) (v2 : Int32) (v3 : Int32) (s0 : Sg) : fP prI [103, 106, 107, 108] [(102, 0), (102, 3), (102, 6)] s0 (fM_person v1 v2 v3 s0) := by
  unfold fM_person
  exact (fp_ptF (by decide) (fun s1 => (fp_bi (fr_M_isIn _ _ _ _) (List.forall_mem_nil _) (List.forall_mem_nil _) (fun r3 s2 => (fp_ite (fp_sm rfl) (fp_bi (fr_M_isIn _ _ _ _) (List.forall_mem_nil _) (List.forall_mem_nil _) (fun r5 s4 => (fp_ite (fp_sm rfl) (fp_bi (fr_M_isIn _ _ _ _) (List.forall_mem_nil _) (List.forall_mem_nil _) (fun r7 s6 => (fp_ite (fp_sm rfl) (fp_ite (fp_sm rfl) (fp_gd (fp_ptA (by decide) (fun s8 => (fp_gd (fp_ptA (by decide) (fun s9 => (fp_gd (fp_ptA (by decide) (fun s10 => (fp_gd (fp_ptA (by decide) (fun s11 => (fp_gd (fp_ptA (by decide) (fun s12 => (fp_gd (fp_ptA (by decide) (fun s13 => (fp_gd (fp_ptA (by decide) (fun s14 => (fp_ptF (by decide) (fun s15 => (fp_ptF (by decide) (fun s16 => (fp_sm rfl))))))))))))))))))))))))))))))))))))))
theorem fr_M_canSet (v1 : Int32) (v2 : Int32) (v3 : Int32) (s0 : Sg) : fP prI [] [] s0 (fM_canSet v1 v2 v3 s0) := by
  unfold fM_canSet
  exact (fp_ite (fp_bi (fr_M_isIn _ _ _ _) (List.forall_mem_nil _) (List.forall_mem_nil _) (fun r12 s11 => (fp_gb (fp_sm rfl)))) (fp_ite (fp_bi (fr_M_isIn _ _ _ _) (List.forall_mem_nil _) (List.forall_mem_nil _) (fun r10 s9 => (fp_gb (fp_sm rfl)))) (fp_bi (fr_M_isIn _ _ _ _) (List.forall_mem_nil _) (List.forall_mem_nil _) (fun r2 s1 => (fp_ite (fp_gb (fp_sm rfl)) (fp_bi (fr_M_isPerson _ _) (List.forall_mem_nil _) (List.forall_mem_nil _) (fun r4 s3 => (fp_ite (fp_gb (fp_sm rfl)) (fp_j1 (fun b62_0 s5 => (fp_j1 (fun b83_0 s6 => (fp_bi (fr_M_isIn _ _ _ _) (List.forall_mem_nil _) (List.forall_mem_nil _) (fun r8 s7 => (fp_gb (fp_sm rfl))))) (fun j83 h_j83 => (fp_ite (fp_ite (h_j83 _ _) (h_j83 _ _)) (h_j83 _ _))))) (fun j62 h_j62 => (fp_ite (h_j62 _ _) (h_j62 _ _))))))))))))
theorem fr_M_set (v1 : Int32) (v2 : Int32) (v3 : Int32) (s0 : Sg) : fP prI [103, 106, 107, 108] [(102, 0), (102, 3)] s0 (fM_set v1 v2 v3 s0) := by
  unfold fM_set
  exact (fp_ptF (by decide) (fun s1 => (fp_bi (fr_M_canSet _ _ _ _) (List.forall_mem_nil _) (List.forall_mem_nil _) (fun r3 s2 => (fp_ite (fp_gb (fp_sm rfl)) (fp_j0 (fun s4 => (fp_j0 (fun s5 => (fp_j0 (fun s6 => (fp_j0 (fun s7 => (fp_j0 (fun s8 => (fp_j0 (fun s9 => (fp_j0 (fun s10 => (fp_ptF (by decide) (fun s11 => (fp_gb (fp_sm rfl))))) (fun j108 h_j108 => (fp_ite (fp_gd (fp_ptA (by decide) (fun s12 => (h_j108 _)))) (h_j108 _))))) (fun j93 h_j93 => (fp_ite (fp_gd (fp_ptA (by decide) (fun s13 => (h_j93 _)))) (h_j93 _))))) (fun j78 h_j78 => (fp_ite (fp_gd (fp_ptA (by decide) (fun s14 => (h_j78 _)))) (h_j78 _))))) (fun j63 h_j63 => (fp_ite (fp_bv (fr_M_hasBreath _ _ _) (by decide) (List.forall_mem_nil _) (fun s15 => (h_j63 _))) (h_j63 _))))) (fun j52 h_j52 => (fp_ite (fp_gd (fp_ptA (by decide) (fun s16 => (h_j52 _)))) (h_j52 _))))) (fun j40 h_j40 => (fp_ite (fp_gd (fp_ptA (by decide) (fun s17 => (h_j40 _)))) (h_j40 _))))) (fun j28 h_j28 => (fp_ite (fp_gd (fp_ptA (by decide) (fun s18 => (h_j28 _)))) (h_j28 _)))))))))
theorem fr_M_types (v1 : Int32) (s0 : Sg) : fP prV [110] [(102, 12)] s0 (fM_types v1 s0) := by
  unfold fM_types
  exact (fp_lq (fun q3 h_q3 u3 s1 => (fp_ite (fp_sm rfl) (fp_gd (fp_ptA (by decide) (fun s2 => (fp_ptF (by decide) (fun s3 => (h_q3 _ _)))))))))
theorem fr_M_feed (v1 : Int32) (v2 : Int32) (v3 : Int32) (v4 : Int32) (v5 : Int32) (s0 : Sg) : fP prI [110] [(102, 0), (102, 12)] s0 (fM_feed v1 v2 v3 v4 v5 s0) := by
  unfold fM_feed
  exact (fp_ptF (by decide) (fun s1 => (fp_ite (fp_bv (fr_M_types _ _) (fun _ h => h) (by decide) (fun s2 => (fp_bv (fr_M_types _ _) (fun _ h => h) (by decide) (fun s3 => (fp_bv (fr_M_types _ _) (fun _ h => h) (by decide) (fun s4 => (fp_bv (fr_M_types _ _) (fun _ h => h) (by decide) (fun s5 => (fp_bv (fr_M_types _ _) (fun _ h => h) (by decide) (fun s6 => (fp_sm rfl))))))))))) (fp_sm rfl))))
theorem fr_M_end (v1 : Int32) (s0 : Sg) : fP prI [] [(102, 0), (102, 12)] s0 (fM_end v1 s0) := by
  unfold fM_end
  exact (fp_ptF (by decide) (fun s1 => (fp_bi (fr_M_isIn _ _ _ _) (List.forall_mem_nil _) (List.forall_mem_nil _) (fun r3 s2 => (fp_ite (fp_gb (fp_sm rfl)) (fp_ptF (by decide) (fun s4 => (fp_gb (fp_sm rfl)))))))))
theorem fr_M_raw (v1 : Int32) (s0 : Sg) : fP prI [] [] s0 (fM_raw v1 s0) := by
  unfold fM_raw
  exact (fp_ite (fp_sm rfl) (fp_gd (fp_sm rfl)))
theorem fr_M_isLetter (v1 : Int32) (s0 : Sg) : fP prI [] [] s0 (fM_isLetter v1 s0) := by
  unfold fM_isLetter
  exact (fp_bi (fr_M_isIn _ _ _ _) (List.forall_mem_nil _) (List.forall_mem_nil _) (fun r2 s1 => (fp_j0 (fun s3 => (fp_gb (fp_sm rfl))) (fun j24 h_j24 => (fp_ite (fp_bi (fr_M_isIn _ _ _ _) (List.forall_mem_nil _) (List.forall_mem_nil _) (fun r5 s4 => (fp_ite (fp_gb (fp_sm rfl)) (h_j24 _)))) (h_j24 _))))))
theorem fr_M_isDigit (v1 : Int32) (s0 : Sg) : fP prI [] [] s0 (fM_isDigit v1 s0) := by
  unfold fM_isDigit
  exact (fp_bi (fr_M_isIn _ _ _ _) (List.forall_mem_nil _) (List.forall_mem_nil _) (fun r2 s1 => (fp_gb (fp_sm rfl))))
theorem fr_M_isMarkSign (v1 : Int32) (s0 : Sg) : fP prI [] [] s0 (fM_isMarkSign v1 s0) := by
  unfold fM_isMarkSign
  exact (fp_j0 (fun s1 => (fp_gb (fp_sm rfl))) (fun j60 h_j60 => (fp_ite (h_j60 _) (fp_ite (h_j60 _) (fp_ite (h_j60 _) (fp_ite (h_j60 _) (fp_ite (h_j60 _) (fp_ite (h_j60 _) (fp_ite (h_j60 _) (fp_ite (h_j60 _) (fp_ite (h_j60 _) (fp_ite (h_j60 _) (fp_gb (fp_sm rfl))))))))))))))
theorem fr_M_wordAt (v1 : Int32) (v2 : Int32) (s0 : Sg) : fP prI [] [] s0 (fM_wordAt v1 v2 s0) := by
  unfold fM_wordAt
  exact (fp_lq (fun q5 h_q5 u5 s1 => (fp_ite (fp_sm rfl) (fp_lq (fun q19 h_q19 u19 s2 => (fp_j0 (fun s3 => (fp_j0 (fun s4 => (fp_lq (fun q93 h_q93 u93 s5 => (fp_gd (fp_ite (h_q5 _ _) (h_q93 _ _)))))) (fun j87 h_j87 => (fp_ite (fp_gd (fp_ite (fp_sm rfl) (h_j87 _))) (h_j87 _))))) (fun j60 h_j60 => (fp_ite (h_j60 _) (fp_gd (fp_gd (fp_ite (h_q19 _ _) (h_j60 _))))))))))))
theorem fr_M_reads (s0 : Sg) : fP prV [] [(102, 13), (102, 14), (102, 15), (102, 16)] s0 (fM_reads s0) := by
  unfold fM_reads
  exact (fp_lq (fun q0 h_q0 u0 s1 => (fp_bi (fr_M_raw _ _) (List.forall_mem_nil _) (List.forall_mem_nil _) (fun r3 s2 => (fp_j0 (fun s4 => (fp_ptF (by decide) (fun s5 => (h_q0 _ _)))) (fun j26 h_j26 => (fp_ite (h_j26 _) (fp_bi (fr_M_raw _ _) (List.forall_mem_nil _) (List.forall_mem_nil _) (fun r7 s6 => (fp_ite (h_j26 _) (fp_ptF (by decide) (fun s8 => (fp_ptF (by decide) (fun s9 => (fp_bi (fr_M_raw _ _) (List.forall_mem_nil _) (List.forall_mem_nil _) (fun r11 s10 => (fp_ite (fp_ptF (by decide) (fun s43 => (fp_sm rfl))) (fp_ptF (by decide) (fun s12 => (fp_ptF (by decide) (fun s13 => (fp_bi (fr_M_isLetter _ _) (List.forall_mem_nil _) (List.forall_mem_nil _) (fun r15 s14 => (fp_ite (fp_bi (fr_M_isDigit _ _) (List.forall_mem_nil _) (List.forall_mem_nil _) (fun r17 s16 => (fp_ite (fp_bi (fr_M_isMarkSign _ _) (List.forall_mem_nil _) (List.forall_mem_nil _) (fun r19 s18 => (fp_ite (fp_sm rfl) (fp_ptF (by decide) (fun s20 => (fp_sm rfl)))))) (fp_ptF (by decide) (fun s21 => (fp_lq (fun q171 h_q171 u171 s22 => (fp_bi (fr_M_raw _ _) (List.forall_mem_nil _) (List.forall_mem_nil _) (fun r24 s23 => (fp_bi (fr_M_isDigit _ _) (List.forall_mem_nil _) (List.forall_mem_nil _) (fun r26 s25 => (fp_ite (fp_ite (fp_sm rfl) (fp_ptF (by decide) (fun s27 => (fp_sm rfl)))) (fp_j1 (fun b223_0 s28 => (fp_ptF (by decide) (fun s29 => (fp_ptF (by decide) (fun s30 => (h_q171 _ _)))))) (fun j223 h_j223 => (fp_ite (h_j223 _ _) (fp_bi (fr_M_raw _ _) (List.forall_mem_nil _) (List.forall_mem_nil _) (fun r32 s31 => (h_j223 _ _)))))))))))))))))) (fp_lq (fun q95 h_q95 u95 s33 => (fp_bi (fr_M_raw _ _) (List.forall_mem_nil _) (List.forall_mem_nil _) (fun r35 s34 => (fp_bi (fr_M_isLetter _ _) (List.forall_mem_nil _) (List.forall_mem_nil _) (fun r37 s36 => (fp_ite (fp_bi (fr_M_wordAt _ _ _) (List.forall_mem_nil _) (List.forall_mem_nil _) (fun r39 s38 => (fp_ptF (by decide) (fun s40 => (fp_ite (fp_sm rfl) (fp_ptF (by decide) (fun s41 => (fp_sm rfl)))))))) (fp_ptF (by decide) (fun s42 => (h_q95 _ _))))))))))))))))))))))))))))))))))
theorem fr_M_errs (v1 : Int32) (s0 : Sg) : fP prI [] [(102, 30), (102, 31)] s0 (fM_errs v1 s0) := by
  unfold fM_errs
  exact (fp_ptF (by decide) (fun s1 => (fp_ptF (by decide) (fun s2 => (fp_sm rfl)))))
theorem fr_M_isWord (v1 : Int32) (s0 : Sg) : fP prI [] [] s0 (fM_isWord v1 s0) := by
  unfold fM_isWord
  exact (fp_ite (fp_ite (fp_gb (fp_sm rfl)) (fp_gb (fp_sm rfl))) (fp_gb (fp_sm rfl)))
theorem fr_M_isSign (v1 : Int32) (s0 : Sg) : fP prI [] [] s0 (fM_isSign v1 s0) := by
  unfold fM_isSign
  exact (fp_ite (fp_ite (fp_gb (fp_sm rfl)) (fp_gb (fp_sm rfl))) (fp_gb (fp_sm rfl)))
theorem fr_M_emits (v1 : Int32) (v2 : Int32) (s0 : Sg) : fP prV [117, 118] [(102, 26)] s0 (fM_emits v1 v2 s0) := by
  unfold fM_emits
  exact (fp_gd (fp_ptA (by decide) (fun s1 => (fp_gd (fp_ptA (by decide) (fun s2 => (fp_ptF (by decide) (fun s3 => (fp_sm rfl)))))))))
theorem fr_M_canAsk (v1 : Int32) (s0 : Sg) : fP prI [] [] s0 (fM_canAsk v1 s0) := by
  unfold fM_canAsk
  exact (fp_bi (fr_M_isIn _ _ _ _) (List.forall_mem_nil _) (List.forall_mem_nil _) (fun r2 s1 => (fp_gb (fp_sm rfl))))
theorem fr_M_readUnit (s0 : Sg) : fP prI [117, 118] [(102, 13), (102, 14), (102, 15), (102, 16), (102, 26), (102, 30), (102, 31)] s0 (fM_readUnit s0) := by
  unfold fM_readUnit
  exact (fp_j1 (fun b24_0 s1 => (fp_j0 (fun s2 => (fp_j1 (fun b53_0 s3 => (fp_j1 (fun b71_0 s4 => (fp_bv (fr_M_emits _ _ _) (fun _ h => h) (by decide) (fun s5 => (fp_bv (fr_M_reads _) (List.forall_mem_nil _) (by decide) (fun s6 => (fp_sm rfl)))))) (fun j71 h_j71 => (fp_ite (h_j71 _ _) (h_j71 _ _))))) (fun j53 h_j53 => (fp_ite (h_j53 _ _) (h_j53 _ _))))) (fun j43 h_j43 => (fp_ite (fp_ite (h_j43 _) (fp_bi (fr_M_errs _ _) (List.forall_mem_nil _) (by decide) (fun r8 s7 => (fp_sm rfl)))) (h_j43 _))))) (fun j24 h_j24 => (fp_j0 (fun s9 => (h_j24 _ _)) (fun j23 h_j23 => (fp_ite (fp_bi (fr_M_canAsk _ _) (List.forall_mem_nil _) (List.forall_mem_nil _) (fun r11 s10 => (fp_ite (h_j23 _) (h_j24 _ _)))) (h_j23 _))))))
theorem fr_M_readProduct (s0 : Sg) : fP prI [117, 118] [(102, 13), (102, 14), (102, 15), (102, 16), (102, 26), (102, 30), (102, 31)] s0 (fM_readProduct s0) := by
  unfold fM_readProduct
  exact (fp_bi (fr_M_readUnit _) (fun _ h => h) (fun _ h => Or.inl h) (fun r2 s1 => (fp_ite (fp_sm rfl) (fp_lq (fun q10 h_q10 u10 s3 => (fp_bi (fr_M_isSign _ _) (List.forall_mem_nil _) (List.forall_mem_nil _) (fun r5 s4 => (fp_j0 (fun s6 => (fp_bi (fr_M_isSign _ _) (List.forall_mem_nil _) (List.forall_mem_nil _) (fun r8 s7 => (fp_bv (fr_M_reads _) (List.forall_mem_nil _) (by decide) (fun s9 => (fp_j0 (fun s10 => (fp_j0 (fun s11 => (fp_bi (fr_M_readUnit _) (fun _ h => h) (fun _ h => Or.inl h) (fun r13 s12 => (fp_ite (fp_sm rfl) (fp_j1 (fun b94_0 s14 => (fp_bv (fr_M_emits _ _ _) (fun _ h => h) (by decide) (fun s15 => (h_q10 _ _)))) (fun j94 h_j94 => (fp_ite (h_j94 _ _) (h_j94 _ _)))))))) (fun j74 h_j74 => (fp_ite (fp_ite (fp_bi (fr_M_errs _ _) (List.forall_mem_nil _) (by decide) (fun r17 s16 => (fp_sm rfl))) (h_j74 _)) (h_j74 _))))) (fun j57 h_j57 => (fp_ite (fp_ite (h_j57 _) (fp_bi (fr_M_errs _ _) (List.forall_mem_nil _) (by decide) (fun r19 s18 => (fp_sm rfl)))) (h_j57 _))))))))) (fun j28 h_j28 => (fp_ite (fp_bi (fr_M_isSign _ _) (List.forall_mem_nil _) (List.forall_mem_nil _) (fun r21 s20 => (fp_ite (fp_sm rfl) (h_j28 _)))) (h_j28 _)))))))))))
theorem fr_M_readSum (s0 : Sg) : fP prI [117, 118] [(102, 13), (102, 14), (102, 15), (102, 16), (102, 26), (102, 30), (102, 31)] s0 (fM_readSum s0) := by
  unfold fM_readSum
  exact (fp_bi (fr_M_readProduct _) (fun _ h => h) (fun _ h => Or.inl h) (fun r2 s1 => (fp_ite (fp_sm rfl) (fp_lq (fun q10 h_q10 u10 s3 => (fp_bi (fr_M_isSign _ _) (List.forall_mem_nil _) (List.forall_mem_nil _) (fun r5 s4 => (fp_j0 (fun s6 => (fp_j1 (fun b42_0 s7 => (fp_bv (fr_M_reads _) (List.forall_mem_nil _) (by decide) (fun s8 => (fp_bi (fr_M_readProduct _) (fun _ h => h) (fun _ h => Or.inl h) (fun r10 s9 => (fp_ite (fp_sm rfl) (fp_bv (fr_M_emits _ _ _) (fun _ h => h) (by decide) (fun s11 => (h_q10 _ _))))))))) (fun j42 h_j42 => (fp_ite (h_j42 _ _) (h_j42 _ _))))) (fun j28 h_j28 => (fp_ite (fp_bi (fr_M_isSign _ _) (List.forall_mem_nil _) (List.forall_mem_nil _) (fun r13 s12 => (fp_ite (fp_sm rfl) (h_j28 _)))) (h_j28 _)))))))))))
theorem fr_M_readCompared (s0 : Sg) : fP prI [117, 118] [(102, 13), (102, 14), (102, 15), (102, 16), (102, 26), (102, 30), (102, 31)] s0 (fM_readCompared s0) := by
  unfold fM_readCompared
  exact (fp_bi (fr_M_readSum _) (fun _ h => h) (fun _ h => Or.inl h) (fun r2 s1 => (fp_ite (fp_sm rfl) (fp_bi (fr_M_isSign _ _) (List.forall_mem_nil _) (List.forall_mem_nil _) (fun r4 s3 => (fp_j0 (fun s5 => (fp_j1 (fun b73_0 s6 => (fp_bv (fr_M_reads _) (List.forall_mem_nil _) (by decide) (fun s7 => (fp_bi (fr_M_readSum _) (fun _ h => h) (fun _ h => Or.inl h) (fun r9 s8 => (fp_ite (fp_sm rfl) (fp_bv (fr_M_emits _ _ _) (fun _ h => h) (by decide) (fun s10 => (fp_sm rfl))))))))) (fun j73 h_j73 => (fp_ite (h_j73 _ _) (fp_ite (h_j73 _ _) (h_j73 _ _)))))) (fun j43 h_j43 => (fp_ite (fp_bi (fr_M_isSign _ _) (List.forall_mem_nil _) (List.forall_mem_nil _) (fun r12 s11 => (fp_ite (fp_bi (fr_M_isSign _ _) (List.forall_mem_nil _) (List.forall_mem_nil _) (fun r14 s13 => (fp_ite (fp_bi (fr_M_errs _ _) (List.forall_mem_nil _) (by decide) (fun r16 s15 => (fp_sm rfl))) (h_j43 _)))) (h_j43 _)))) (h_j43 _)))))))))
theorem fr_M_waits (v1 : Int32) (s0 : Sg) : fP prV [119] [(102, 29)] s0 (fM_waits v1 s0) := by
  unfold fM_waits
  exact (fp_gd (fp_ptA (by decide) (fun s1 => (fp_ptF (by decide) (fun s2 => (fp_sm rfl))))))
theorem fr_M_settles (v1 : Int32) (s0 : Sg) : fP prV [117, 118] [(102, 26), (102, 27), (102, 29)] s0 (fM_settles v1 s0) := by
  unfold fM_settles
  exact (fp_lq (fun q0 h_q0 u0 s1 => (fp_ite (fp_sm rfl) (fp_gd (fp_ite (fp_ptF (by decide) (fun s2 => (fp_bv (fr_M_emits _ _ _) (fun _ h => h) (by decide) (fun s3 => (fp_ite (fp_ptF (by decide) (fun s4 => (h_q0 _ _))) (h_q0 _ _)))))) (fp_sm rfl))))))
theorem fr_M_readAny (s0 : Sg) : fP prI [117, 118, 119] [(102, 13), (102, 14), (102, 15), (102, 16), (102, 26), (102, 27), (102, 29), (102, 30), (102, 31)] s0 (fM_readAny s0) := by
  unfold fM_readAny
  exact (fp_ptF (by decide) (fun s1 => (fp_lq (fun q9 h_q9 u9 s2 => (fp_ite (fp_bi (fr_M_isWord _ _) (List.forall_mem_nil _) (List.forall_mem_nil _) (fun r4 s3 => (fp_ite (fp_bi (fr_M_isWord _ _) (List.forall_mem_nil _) (List.forall_mem_nil _) (fun r6 s5 => (fp_ite (fp_bv (fr_M_settles _ _) (by decide) (by decide) (fun s7 => (fp_bv (fr_M_settles _ _) (by decide) (by decide) (fun s8 => (fp_ite (fp_sm rfl) (fp_bi (fr_M_isSign _ _) (List.forall_mem_nil _) (List.forall_mem_nil _) (fun r10 s9 => (fp_ite (fp_bi (fr_M_errs _ _) (List.forall_mem_nil _) (by decide) (fun r16 s15 => (fp_sm rfl))) (fp_ptF (by decide) (fun s11 => (fp_ptF (by decide) (fun s12 => (fp_bv (fr_M_settles _ _) (by decide) (by decide) (fun s13 => (fp_bv (fr_M_reads _) (List.forall_mem_nil _) (by decide) (fun s14 => (h_q9 _ _))))))))))))))))) (fp_bv (fr_M_settles _ _) (by decide) (by decide) (fun s17 => (fp_bv (fr_M_settles _ _) (by decide) (by decide) (fun s18 => (fp_bv (fr_M_waits _ _) (by decide) (by decide) (fun s19 => (fp_bv (fr_M_reads _) (List.forall_mem_nil _) (by decide) (fun s20 => (h_q9 _ _)))))))))))) (fp_bv (fr_M_settles _ _) (by decide) (by decide) (fun s21 => (fp_bv (fr_M_waits _ _) (by decide) (by decide) (fun s22 => (fp_bv (fr_M_reads _) (List.forall_mem_nil _) (by decide) (fun s23 => (h_q9 _ _)))))))))) (fp_bi (fr_M_isWord _ _) (List.forall_mem_nil _) (List.forall_mem_nil _) (fun r25 s24 => (fp_j0 (fun s26 => (fp_ite (fp_bi (fr_M_errs _ _) (List.forall_mem_nil _) (by decide) (fun r33 s32 => (fp_sm rfl))) (fp_ptF (by decide) (fun s27 => (fp_j1 (fun a66_1 s28 => (fp_j1 (fun b78_0 s29 => (fp_bv (fr_M_waits _ _) (by decide) (by decide) (fun s30 => (fp_bv (fr_M_reads _) (List.forall_mem_nil _) (by decide) (fun s31 => (h_q9 _ _)))))) (fun j78 h_j78 => (fp_ite (h_j78 _ _) (h_j78 _ _))))) (fun j66 h_j66 => (fp_ite (h_j66 _ _) (h_j66 _ _)))))))) (fun j33 h_j33 => (fp_ite (fp_bi (fr_M_isSign _ _) (List.forall_mem_nil _) (List.forall_mem_nil _) (fun r35 s34 => (fp_ite (fp_bi (fr_M_readCompared _) (by decide) (by decide) (fun r37 s36 => (fp_ite (fp_sm rfl) (fp_bv (fr_M_settles _ _) (by decide) (by decide) (fun s38 => (h_q9 _ _)))))) (h_j33 _)))) (h_j33 _)))))))))))
theorem fr_M_isLineWord (s0 : Sg) : fP prI [] [] s0 (fM_isLineWord s0) := by
  unfold fM_isLineWord
  exact (fp_ite (fp_bi (fr_M_isIn _ _ _ _) (List.forall_mem_nil _) (List.forall_mem_nil _) (fun r2 s1 => (fp_ite (fp_gb (fp_sm rfl)) (fp_gb (fp_sm rfl))))) (fp_gb (fp_sm rfl)))
theorem fr_M_readLaw (s0 : Sg) : fP prI [113, 114, 115, 116, 117, 118, 119] [(102, 13), (102, 14), (102, 15), (102, 16), (102, 26), (102, 27), (102, 29), (102, 30), (102, 31)] s0 (fM_readLaw s0) := by
  unfold fM_readLaw
  exact (fp_lq (fun q2 h_q2 u2 s1 => (fp_bi (fr_M_isLineWord _) (List.forall_mem_nil _) (List.forall_mem_nil _) (fun r3 s2 => (fp_ite (fp_ite (fp_sm rfl) (fp_bi (fr_M_errs _ _) (List.forall_mem_nil _) (by decide) (fun r5 s4 => (fp_sm rfl)))) (fp_ite (fp_bi (fr_M_errs _ _) (List.forall_mem_nil _) (by decide) (fun r25 s24 => (fp_sm rfl))) (fp_gd (fp_ptA (by decide) (fun s6 => (fp_bv (fr_M_reads _) (List.forall_mem_nil _) (by decide) (fun s7 => (fp_gd (fp_ptA (by decide) (fun s8 => (fp_bi (fr_M_readSum _) (by decide) (by decide) (fun r10 s9 => (fp_ite (fp_sm rfl) (fp_gd (fp_ptA (by decide) (fun s11 => (fp_bi (fr_M_isWord _ _) (List.forall_mem_nil _) (List.forall_mem_nil _) (fun r13 s12 => (fp_j0 (fun s14 => (fp_gd (fp_ptA (by decide) (fun s15 => (fp_bi (fr_M_isSign _ _) (List.forall_mem_nil _) (List.forall_mem_nil _) (fun r17 s16 => (fp_ite (fp_bi (fr_M_errs _ _) (List.forall_mem_nil _) (by decide) (fun r20 s19 => (fp_sm rfl))) (fp_bv (fr_M_reads _) (List.forall_mem_nil _) (by decide) (fun s18 => (h_q2 _ _)))))))))) (fun j92 h_j92 => (fp_ite (h_j92 _) (fp_bv (fr_M_reads _) (List.forall_mem_nil _) (by decide) (fun s21 => (fp_bi (fr_M_readAny _) (by decide) (fun _ h => Or.inl h) (fun r23 s22 => (fp_ite (fp_sm rfl) (h_j92 _)))))))))))))))))))))))))))))))
theorem fr_M_takesLaw (v1 : Int32) (s0 : Sg) : fP prV [112, 113, 114, 115, 116, 117, 118] [] s0 (fM_takesLaw v1 s0) := by
  unfold fM_takesLaw
  exact (fp_lq (fun q2 h_q2 u2 s1 => (fp_ite (fp_lq (fun q107 h_q107 u107 s2 => (fp_ite (fp_gd (fp_ptA (by decide) (fun s3 => (fp_sm rfl)))) (fp_gd (fp_gd (fp_ptA (by decide) (fun s4 => (fp_gd (fp_gd (fp_ptA (by decide) (fun s5 => (h_q107 _ _)))))))))))) (fp_gd (fp_gd (fp_ptA (by decide) (fun s6 => (fp_gd (fp_gd (fp_ptA (by decide) (fun s7 => (fp_gd (fp_gd (fp_ptA (by decide) (fun s8 => (fp_gd (fp_gd (fp_ptA (by decide) (fun s9 => (h_q2 _ _))))))))))))))))))))
theorem fr_M_readNumber (v1 : Int32) (v2 : Int32) (s0 : Sg) : fP prI [] [(102, 13), (102, 14), (102, 15), (102, 16), (102, 30), (102, 31)] s0 (fM_readNumber v1 v2 s0) := by
  unfold fM_readNumber
  exact (fp_ite (fp_bi (fr_M_isIn _ _ _ _) (List.forall_mem_nil _) (List.forall_mem_nil _) (fun r2 s1 => (fp_ite (fp_bi (fr_M_errs _ _) (List.forall_mem_nil _) (by decide) (fun r5 s4 => (fp_sm rfl))) (fp_bv (fr_M_reads _) (List.forall_mem_nil _) (by decide) (fun s3 => (fp_sm rfl)))))) (fp_bi (fr_M_errs _ _) (List.forall_mem_nil _) (by decide) (fun r7 s6 => (fp_sm rfl))))
theorem fr_M_readMark (v1 : Int32) (s0 : Sg) : fP prI [] [(102, 13), (102, 14), (102, 15), (102, 16), (102, 30), (102, 31)] s0 (fM_readMark v1 s0) := by
  unfold fM_readMark
  exact (fp_bi (fr_M_isSign _ _) (List.forall_mem_nil _) (List.forall_mem_nil _) (fun r2 s1 => (fp_ite (fp_bi (fr_M_errs _ _) (List.forall_mem_nil _) (by decide) (fun r5 s4 => (fp_sm rfl))) (fp_bv (fr_M_reads _) (List.forall_mem_nil _) (by decide) (fun s3 => (fp_sm rfl))))))
theorem fr_M_readTold (v1 : Int32) (v2 : Int32) (v3 : Int32) (s0 : Sg) : fP prI [] [(102, 13), (102, 14), (102, 15), (102, 16), (102, 30), (102, 31)] s0 (fM_readTold v1 v2 v3 s0) := by
  unfold fM_readTold
  exact (fp_bi (fr_M_isWord _ _) (List.forall_mem_nil _) (List.forall_mem_nil _) (fun r2 s1 => (fp_ite (fp_bi (fr_M_errs _ _) (List.forall_mem_nil _) (by decide) (fun r7 s6 => (fp_sm rfl))) (fp_bv (fr_M_reads _) (List.forall_mem_nil _) (by decide) (fun s3 => (fp_bi (fr_M_readNumber _ _ _) (List.forall_mem_nil _) (fun _ h => Or.inl h) (fun r5 s4 => (fp_sm rfl))))))))
theorem fr_M_readClimb (v1 : Int32) (s0 : Sg) : fP prI [120] [(102, 13), (102, 14), (102, 15), (102, 16), (102, 30), (102, 31)] s0 (fM_readClimb v1 s0) := by
  unfold fM_readClimb
  exact (fp_bi (fr_M_readTold _ _ _ _) (List.forall_mem_nil _) (fun _ h => Or.inl h) (fun r2 s1 => (fp_gd (fp_ptA (by decide) (fun s3 => (fp_gd (fp_ite (fp_sm rfl) (fp_bi (fr_M_readTold _ _ _ _) (List.forall_mem_nil _) (fun _ h => Or.inl h) (fun r5 s4 => (fp_gd (fp_ptA (by decide) (fun s6 => (fp_gd (fp_ite (fp_sm rfl) (fp_bi (fr_M_readTold _ _ _ _) (List.forall_mem_nil _) (fun _ h => Or.inl h) (fun r8 s7 => (fp_gd (fp_ptA (by decide) (fun s9 => (fp_gd (fp_ite (fp_sm rfl) (fp_bi (fr_M_readTold _ _ _ _) (List.forall_mem_nil _) (fun _ h => Or.inl h) (fun r11 s10 => (fp_gd (fp_ptA (by decide) (fun s12 => (fp_gd (fp_ite (fp_sm rfl) (fp_bi (fr_M_readMark _ _) (List.forall_mem_nil _) (fun _ h => Or.inl h) (fun r14 s13 => (fp_sm rfl)))))))))))))))))))))))))))))))
theorem fr_M_readClimbs (s0 : Sg) : fP prI [120] [(102, 13), (102, 14), (102, 15), (102, 16), (102, 30), (102, 31)] s0 (fM_readClimbs s0) := by
  unfold fM_readClimbs
  exact (fp_lq (fun q2 h_q2 u2 s1 => (fp_bi (fr_M_isWord _ _) (List.forall_mem_nil _) (List.forall_mem_nil _) (fun r3 s2 => (fp_ite (fp_ite (fp_sm rfl) (fp_bi (fr_M_errs _ _) (List.forall_mem_nil _) (by decide) (fun r5 s4 => (fp_sm rfl)))) (fp_ite (fp_bi (fr_M_errs _ _) (List.forall_mem_nil _) (by decide) (fun r9 s8 => (fp_sm rfl))) (fp_bi (fr_M_readClimb _ _) (fun _ h => h) (fun _ h => Or.inl h) (fun r7 s6 => (fp_ite (fp_sm rfl) (h_q2 _ _))))))))))
theorem fr_M_readSuns (s0 : Sg) : fP prI [121] [(102, 13), (102, 14), (102, 15), (102, 16), (102, 30), (102, 31)] s0 (fM_readSuns s0) := by
  unfold fM_readSuns
  exact (fp_lq (fun q2 h_q2 u2 s1 => (fp_bi (fr_M_isWord _ _) (List.forall_mem_nil _) (List.forall_mem_nil _) (fun r3 s2 => (fp_ite (fp_ite (fp_sm rfl) (fp_bi (fr_M_errs _ _) (List.forall_mem_nil _) (by decide) (fun r5 s4 => (fp_sm rfl)))) (fp_ite (fp_bi (fr_M_errs _ _) (List.forall_mem_nil _) (by decide) (fun r15 s14 => (fp_sm rfl))) (fp_bi (fr_M_readTold _ _ _ _) (List.forall_mem_nil _) (fun _ h => Or.inl h) (fun r7 s6 => (fp_gd (fp_ptA (by decide) (fun s8 => (fp_gd (fp_ite (fp_sm rfl) (fp_bi (fr_M_readTold _ _ _ _) (List.forall_mem_nil _) (fun _ h => Or.inl h) (fun r10 s9 => (fp_gd (fp_ptA (by decide) (fun s11 => (fp_gd (fp_ite (fp_sm rfl) (fp_bi (fr_M_readMark _ _) (List.forall_mem_nil _) (fun _ h => Or.inl h) (fun r13 s12 => (fp_ite (fp_sm rfl) (h_q2 _ _))))))))))))))))))))))))
theorem fr_M_readSuit (s0 : Sg) : fP prI [122] [(102, 13), (102, 14), (102, 15), (102, 16), (102, 30), (102, 31)] s0 (fM_readSuit s0) := by
  unfold fM_readSuit
  exact (fp_bi (fr_M_readTold _ _ _ _) (List.forall_mem_nil _) (fun _ h => Or.inl h) (fun r2 s1 => (fp_ite (fp_sm rfl) (fp_bi (fr_M_isWord _ _) (List.forall_mem_nil _) (List.forall_mem_nil _) (fun r4 s3 => (fp_ite (fp_bi (fr_M_errs _ _) (List.forall_mem_nil _) (by decide) (fun r15 s14 => (fp_sm rfl))) (fp_bv (fr_M_reads _) (List.forall_mem_nil _) (by decide) (fun s5 => (fp_bi (fr_M_readNumber _ _ _) (List.forall_mem_nil _) (fun _ h => Or.inl h) (fun r7 s6 => (fp_lq (fun q44 h_q44 u44 s8 => (fp_ite (fp_sm rfl) (fp_gd (fp_gd (fp_ptA (by decide) (fun s9 => (fp_ite (fp_bi (fr_M_readNumber _ _ _) (List.forall_mem_nil _) (fun _ h => Or.inl h) (fun r11 s10 => (h_q44 _ _))) (fp_bi (fr_M_readMark _ _) (List.forall_mem_nil _) (fun _ h => Or.inl h) (fun r13 s12 => (fp_sm rfl)))))))))))))))))))))
theorem fr_M_readSuits (s0 : Sg) : fP prI [122] [(102, 13), (102, 14), (102, 15), (102, 16), (102, 30), (102, 31)] s0 (fM_readSuits s0) := by
  unfold fM_readSuits
  exact (fp_lq (fun q2 h_q2 u2 s1 => (fp_ite (fp_lq (fun q26 h_q26 u26 s2 => (fp_bi (fr_M_isWord _ _) (List.forall_mem_nil _) (List.forall_mem_nil _) (fun r4 s3 => (fp_ite (fp_ite (fp_sm rfl) (fp_bi (fr_M_errs _ _) (List.forall_mem_nil _) (by decide) (fun r6 s5 => (fp_sm rfl)))) (fp_ite (fp_bi (fr_M_errs _ _) (List.forall_mem_nil _) (by decide) (fun r10 s9 => (fp_sm rfl))) (fp_bi (fr_M_readSuit _) (fun _ h => h) (fun _ h => Or.inl h) (fun r8 s7 => (fp_ite (fp_sm rfl) (h_q26 _ _)))))))))) (fp_gd (fp_ptA (by decide) (fun s11 => (h_q2 _ _)))))))
theorem fr_M_readsText (v1 : Int32) (s0 : Sg) : fP prI [113, 114, 115, 116, 117, 118, 119, 120, 121, 122] [(102, 13), (102, 14), (102, 15), (102, 16), (102, 25), (102, 26), (102, 27), (102, 29), (102, 30), (102, 31)] s0 (fM_readsText v1 s0) := by
  unfold fM_readsText
  exact (fp_ptF (by decide) (fun s1 => (fp_bv (fr_M_reads _) (List.forall_mem_nil _) (by decide) (fun s2 => (fp_ite (fp_bi (fr_M_readClimbs _) (by decide) (by decide) (fun r10 s9 => (fp_sm rfl))) (fp_ite (fp_bi (fr_M_readSuns _) (by decide) (by decide) (fun r8 s7 => (fp_sm rfl))) (fp_ite (fp_bi (fr_M_readSuits _) (by decide) (by decide) (fun r6 s5 => (fp_sm rfl))) (fp_bi (fr_M_readLaw _) (by decide) (by decide) (fun r4 s3 => (fp_sm rfl))))))))))
theorem fr_M_takesOther (v1 : Int32) (v2 : Int32) (s0 : Sg) : fP prV [120, 121, 122] [(102, 3), (102, 34), (102, 36), (102, 38)] s0 (fM_takesOther v1 v2 s0) := by
  unfold fM_takesOther
  exact (fp_ite (fp_lq (fun q7 h_q7 u7 s9 => (fp_ite (fp_ptF (by decide) (fun s10 => (fp_sm rfl))) (fp_gd (fp_gd (fp_ptA (by decide) (fun s11 => (h_q7 _ _)))))))) (fp_j0 (fun s1 => (fp_ptF (by decide) (fun s2 => (fp_sm rfl)))) (fun j118 h_j118 => (fp_ite (fp_lq (fun q47 h_q47 u47 s6 => (fp_ite (fp_ptF (by decide) (fun s7 => (h_j118 _))) (fp_gd (fp_gd (fp_ptA (by decide) (fun s8 => (h_q47 _ _)))))))) (fp_lq (fun q85 h_q85 u85 s3 => (fp_ite (fp_ptF (by decide) (fun s4 => (h_j118 _))) (fp_gd (fp_gd (fp_ptA (by decide) (fun s5 => (h_q85 _ _))))))))))))
theorem fr_M_text (v1 : Int32) (s0 : Sg) : fP prI [112, 113, 114, 115, 116, 117, 118, 119, 120, 121, 122] [(102, 0), (102, 3), (102, 12), (102, 13), (102, 14), (102, 15), (102, 16), (102, 25), (102, 26), (102, 27), (102, 29), (102, 30), (102, 31), (102, 32), (102, 33), (102, 34), (102, 36), (102, 38)] s0 (fM_text v1 s0) := by
  unfold fM_text
  exact (fp_ptF (by decide) (fun s1 => (fp_ptF (by decide) (fun s2 => (fp_ptF (by decide) (fun s3 => (fp_ptF (by decide) (fun s4 => (fp_ptF (by decide) (fun s5 => (fp_ptF (by decide) (fun s6 => (fp_bi (fr_M_isIn _ _ _ _) (List.forall_mem_nil _) (List.forall_mem_nil _) (fun r8 s7 => (fp_j1 (fun a69_2 s9 => (fp_ptF (by decide) (fun s10 => (fp_ite (fp_sm rfl) (fp_ite (fp_bv (fr_M_takesLaw _ _) (by decide) (List.forall_mem_nil _) (fun s12 => (fp_sm rfl))) (fp_bv (fr_M_takesOther _ _ _) (by decide) (by decide) (fun s11 => (fp_sm rfl)))))))) (fun j69 h_j69 => (fp_ite (h_j69 _ _) (fp_bi (fr_M_readsText _ _) (by decide) (by decide) (fun r14 s13 => (fp_ite (fp_ptF (by decide) (fun s15 => (fp_ptF (by decide) (fun s16 => (h_j69 _ _))))) (h_j69 _ _)))))))))))))))))))))
theorem fr_M_fault (v1 : Int32) (s0 : Sg) : fP prI [] [(102, 0)] s0 (fM_fault v1 s0) := by
  unfold fM_fault
  exact (fp_ptF (by decide) (fun s1 => (fp_ite (fp_sm rfl) (fp_ite (fp_sm rfl) (fp_sm rfl)))))
theorem fr_M_twoOf (v1 : Int32) (v2 : Int32) (v3 : Int32) (s0 : Sg) : fP prI [] [] s0 (fM_twoOf v1 v2 v3 s0) := by
  unfold fM_twoOf
  exact (fp_ite (fp_sm rfl) (fp_ite (fp_sm rfl) (fp_ite (fp_sm rfl) (fp_ite (fp_gz (fp_sm rfl)) (fp_ite (fp_ite (fp_sm rfl) (fp_sm rfl)) (fp_ite (fp_ite (fp_sm rfl) (fp_sm rfl)) (fp_ite (fp_ite (fp_sm rfl) (fp_sm rfl)) (fp_ite (fp_sm rfl) (fp_ite (fp_sm rfl) (fp_sm rfl))))))))))
theorem fr_M_runs (v1 : Int32) (v2 : Int32) (v3 : Int32) (s0 : Sg) : fP prI [124] [] s0 (fM_runs v1 v2 v3 s0) := by
  unfold fM_runs
  exact (fp_lq (fun q12 h_q12 u12 s1 => (fp_ite (fp_gd (fp_sm rfl)) (fp_gd (fp_j1 (fun a170_4 s2 => (h_q12 _ _)) (fun j170 h_j170 => (fp_j0 (fun s3 => (fp_gd (fp_j1 (fun b83_0 s4 => (fp_gd (fp_ptA (by decide) (fun s5 => (h_j170 _ _))))) (fun j83 h_j83 => (fp_ite (fp_gd (h_j83 _ _)) (fp_gd (fp_gd (h_j83 _ _)))))))) (fun j45 h_j45 => (fp_ite (h_j45 _) (fp_gd (fp_ite (h_j45 _) (fp_gd (fp_ite (fp_gd (fp_gd (fp_ptA (by decide) (fun s9 => (h_j170 _ _))))) (fp_gd (fp_gd (fp_gd (fp_bi (fr_M_twoOf _ _ _ _) (List.forall_mem_nil _) (List.forall_mem_nil _) (fun r7 s6 => (fp_gd (fp_ptA (by decide) (fun s8 => (h_j170 _ _))))))))))))))))))))))
theorem fr_M_lineOf (v1 : Int32) (s0 : Sg) : fP prI [124] [] s0 (fM_lineOf v1 s0) := by
  unfold fM_lineOf
  exact (fp_lq (fun q2 h_q2 u2 s1 => (fp_gd (fp_ite (fp_sm rfl) (fp_gd (fp_j0 (fun s2 => (h_q2 _ _)) (fun j59 h_j59 => (fp_ite (fp_gd (fp_gd (fp_ite (fp_sm rfl) (fp_gd (fp_gd (fp_bi (fr_M_runs _ _ _ _) (fun _ h => h) (List.forall_mem_nil _) (fun r4 s3 => (fp_ite (h_j59 _) (fp_sm rfl))))))))) (h_j59 _)))))))))
theorem fr_M_othersUp (v1 : Int32) (s0 : Sg) : fP prI [] [] s0 (fM_othersUp v1 s0) := by
  unfold fM_othersUp
  exact (fp_lq (fun q4 h_q4 u4 s1 => (fp_ite (fp_sm rfl) (fp_j1 (fun a29_2 s2 => (h_q4 _ _)) (fun j29 h_j29 => (fp_ite (h_j29 _ _) (fp_bi (fr_M_isUp _ _) (List.forall_mem_nil _) (List.forall_mem_nil _) (fun r4 s3 => (fp_ite (h_j29 _ _) (h_j29 _ _))))))))))
theorem fr_M_asks (v1 : Int32) (s0 : Sg) : fP prV [123] [] s0 (fM_asks v1 s0) := by
  unfold fM_asks
  exact (fp_gd (fp_gd (fp_ptA (by decide) (fun s1 => (fp_gd (fp_gd (fp_ptA (by decide) (fun s2 => (fp_gd (fp_gd (fp_ptA (by decide) (fun s3 => (fp_bi (fr_M_breathOf _ _) (List.forall_mem_nil _) (List.forall_mem_nil _) (fun r5 s4 => (fp_gd (fp_ptA (by decide) (fun s6 => (fp_gd (fp_gd (fp_ptA (by decide) (fun s7 => (fp_gd (fp_bi (fr_M_greater _ _ _) (List.forall_mem_nil _) (List.forall_mem_nil _) (fun r9 s8 => (fp_gd (fp_ptA (by decide) (fun s10 => (fp_bi (fr_M_sunset _) (List.forall_mem_nil _) (List.forall_mem_nil _) (fun r12 s11 => (fp_gd (fp_bi (fr_M_greater _ _ _) (List.forall_mem_nil _) (List.forall_mem_nil _) (fun r14 s13 => (fp_gd (fp_ptA (by decide) (fun s15 => (fp_bi (fr_M_othersUp _ _) (List.forall_mem_nil _) (List.forall_mem_nil _) (fun r17 s16 => (fp_gd (fp_ptA (by decide) (fun s18 => (fp_gd (fp_gd (fp_ptA (by decide) (fun s19 => (fp_sm rfl)))))))))))))))))))))))))))))))))))))))))))))
theorem fr_M_lawTells (v1 : Int32) (v2 : Int32) (v3 : Int32) (v4 : Int32) (s0 : Sg) : fP prI [123, 124] [] s0 (fM_lawTells v1 v2 v3 v4 s0) := by
  unfold fM_lawTells
  exact (fp_bv (fr_M_asks _ _) (by decide) (List.forall_mem_nil _) (fun s1 => (fp_bi (fr_M_lineOf _ _) (by decide) (List.forall_mem_nil _) (fun r3 s2 => (fp_j1 (fun b42_0 s4 => (fp_bi (fr_M_held _ _ _ _) (List.forall_mem_nil _) (List.forall_mem_nil _) (fun r6 s5 => (fp_sm rfl)))) (fun j42 h_j42 => (fp_ite (h_j42 _ _) (fp_gd (fp_gd (fp_bi (fr_M_runs _ _ _ _) (by decide) (List.forall_mem_nil _) (fun r8 s7 => (h_j42 _ _))))))))))))
theorem fr_M_climbsOf (v1 : Int32) (s0 : Sg) : fP prI [123, 124] [] s0 (fM_climbsOf v1 s0) := by
  unfold fM_climbsOf
  exact (fp_gd (fp_bi (fr_M_lawTells _ _ _ _ _) (fun _ h => h) (List.forall_mem_nil _) (fun r2 s1 => (fp_sm rfl))))
theorem fr_M_tiresOf (v1 : Int32) (s0 : Sg) : fP prI [123, 124] [] s0 (fM_tiresOf v1 s0) := by
  unfold fM_tiresOf
  exact (fp_bi (fr_M_lawTells _ _ _ _ _) (fun _ h => h) (List.forall_mem_nil _) (fun r2 s1 => (fp_sm rfl)))
theorem fr_M_saysOf (v1 : Int32) (s0 : Sg) : fP prI [123, 124] [] s0 (fM_saysOf v1 s0) := by
  unfold fM_saysOf
  exact (fp_gd (fp_bi (fr_M_breathOf _ _) (List.forall_mem_nil _) (List.forall_mem_nil _) (fun r2 s1 => (fp_bi (fr_M_lawTells _ _ _ _ _) (fun _ h => h) (List.forall_mem_nil _) (fun r4 s3 => (fp_sm rfl))))))
theorem fr_M_notes (v1 : Int32) (v2 : Int32) (v3 : Int32) (s0 : Sg) : fP prV [103, 109] [] s0 (fM_notes v1 v2 v3 s0) := by
  unfold fM_notes
  exact (fp_ite (fp_gd (fp_ite (fp_sm rfl) (fp_gd (fp_gd (fp_gd (fp_ptA (by decide) (fun s1 => (fp_gd (fp_gd (fp_ptA (by decide) (fun s2 => (fp_gd (fp_ptA (by decide) (fun s3 => (fp_gd (fp_ptA (by decide) (fun s4 => (fp_gd (fp_ptA (by decide) (fun s5 => (fp_gd (fp_gd (fp_ptA (by decide) (fun s6 => (fp_sm rfl))))))))))))))))))))))))) (fp_sm rfl))
theorem fr_M_isLast (v1 : Int32) (v2 : Int32) (v3 : Int32) (s0 : Sg) : fP prV [103, 109] [] s0 (fM_isLast v1 v2 v3 s0) := by
  unfold fM_isLast
  exact (fp_gd (fp_ptA (by decide) (fun s1 => (fp_gd (fp_ptA (by decide) (fun s2 => (fp_gd (fp_gd (fp_ptA (by decide) (fun s3 => (fp_bv (fr_M_notes _ _ _ _) (fun _ h => h) (List.forall_mem_nil _) (fun s4 => (fp_sm rfl)))))))))))))
theorem fr_M_canAct (v1 : Int32) (v2 : Int32) (v3 : Int32) (s0 : Sg) : fP prI [] [] s0 (fM_canAct v1 v2 v3 s0) := by
  unfold fM_canAct
  exact (fp_bi (fr_M_isPerson _ _) (List.forall_mem_nil _) (List.forall_mem_nil _) (fun r2 s1 => (fp_ite (fp_gb (fp_sm rfl)) (fp_ite (fp_bi (fr_M_isIn _ _ _ _) (List.forall_mem_nil _) (List.forall_mem_nil _) (fun r10 s9 => (fp_ite (fp_gb (fp_sm rfl)) (fp_bi (fr_M_isUp _ _) (List.forall_mem_nil _) (List.forall_mem_nil _) (fun r12 s11 => (fp_ite (fp_gb (fp_sm rfl)) (fp_gd (fp_bi (fr_M_sunset _) (List.forall_mem_nil _) (List.forall_mem_nil _) (fun r14 s13 => (fp_ite (fp_gb (fp_sm rfl)) (fp_gb (fp_sm rfl)))))))))))) (fp_ite (fp_bi (fr_M_isIn _ _ _ _) (List.forall_mem_nil _) (List.forall_mem_nil _) (fun r6 s5 => (fp_ite (fp_gb (fp_sm rfl)) (fp_bi (fr_M_isGoing _ _) (List.forall_mem_nil _) (List.forall_mem_nil _) (fun r8 s7 => (fp_ite (fp_gb (fp_sm rfl)) (fp_gb (fp_sm rfl)))))))) (fp_ite (fp_bi (fr_M_isGoing _ _) (List.forall_mem_nil _) (List.forall_mem_nil _) (fun r4 s3 => (fp_ite (fp_gb (fp_sm rfl)) (fp_gb (fp_sm rfl))))) (fp_gb (fp_sm rfl))))))))
theorem fr_M_act (v1 : Int32) (v2 : Int32) (v3 : Int32) (s0 : Sg) : fP prI [103, 104, 109] [(102, 0), (102, 3)] s0 (fM_act v1 v2 v3 s0) := by
  unfold fM_act
  exact (fp_ptF (by decide) (fun s1 => (fp_bi (fr_M_canAct _ _ _ _) (List.forall_mem_nil _) (List.forall_mem_nil _) (fun r3 s2 => (fp_ite (fp_gb (fp_sm rfl)) (fp_bv (fr_M_keepsAhead _) (by decide) (by decide) (fun s4 => (fp_j0 (fun s5 => (fp_j0 (fun s6 => (fp_ite (fp_gd (fp_ptA (by decide) (fun s7 => (fp_gd (fp_ptA (by decide) (fun s8 => (fp_gb (fp_sm rfl)))))))) (fp_gb (fp_sm rfl)))) (fun j49 h_j49 => (fp_ite (fp_gd (fp_ptA (by decide) (fun s9 => (h_j49 _)))) (h_j49 _))))) (fun j32 h_j32 => (fp_ite (fp_bv (fr_M_isLast _ _ _ _) (by decide) (List.forall_mem_nil _) (fun s10 => (h_j32 _))) (h_j32 _)))))))))))
theorem fr_M_ask (v1 : Int32) (s0 : Sg) : fP prI [103, 104, 109] [(102, 0), (102, 3)] s0 (fM_ask v1 s0) := by
  unfold fM_ask
  exact (fp_ptF (by decide) (fun s1 => (fp_bi (fr_M_isIn _ _ _ _) (List.forall_mem_nil _) (List.forall_mem_nil _) (fun r3 s2 => (fp_ite (fp_sm rfl) (fp_bv (fr_M_keepsAhead _) (by decide) (by decide) (fun s4 => (fp_gd (fp_j1 (fun b55_0 s5 => (fp_gd (fp_gd (fp_ptA (by decide) (fun s6 => (fp_j0 (fun s7 => (fp_j1 (fun b102_0 s8 => (fp_bv (fr_M_notes _ _ _ _) (by decide) (List.forall_mem_nil _) (fun s9 => (fp_ite (fp_sm rfl) (fp_sm rfl))))) (fun j102 h_j102 => (fp_ite (h_j102 _ _) (h_j102 _ _))))) (fun j92 h_j92 => (fp_ite (h_j92 _) (fp_gd (fp_gd (fp_ptA (by decide) (fun s10 => (h_j92 _))))))))))))) (fun j55 h_j55 => (fp_j0 (fun s11 => (h_j55 _ _)) (fun j54 h_j54 => (fp_ite (h_j54 _) (fp_gd (fp_bi (fr_M_has _ _ _) (List.forall_mem_nil _) (List.forall_mem_nil _) (fun r13 s12 => (fp_ite (h_j54 _) (h_j55 _ _))))))))))))))))))
theorem fr_M_climbsOn (v1 : Int32) (s0 : Sg) : fP prV [103, 123, 124] [] s0 (fM_climbsOn v1 s0) := by
  unfold fM_climbsOn
  exact (fp_bi (fr_M_breathOf _ _) (List.forall_mem_nil _) (List.forall_mem_nil _) (fun r2 s1 => (fp_ite (fp_bv (fr_M_hasBreath _ _ _) (by decide) (List.forall_mem_nil _) (fun s13 => (fp_sm rfl))) (fp_bi (fr_M_climbsOf _ _) (by decide) (List.forall_mem_nil _) (fun r4 s3 => (fp_bi (fr_M_tiresOf _ _) (by decide) (List.forall_mem_nil _) (fun r6 s5 => (fp_gd (fp_bi (fr_M_lesser _ _ _) (List.forall_mem_nil _) (List.forall_mem_nil _) (fun r8 s7 => (fp_gd (fp_ptA (by decide) (fun s9 => (fp_bi (fr_M_breathOf _ _) (List.forall_mem_nil _) (List.forall_mem_nil _) (fun r11 s10 => (fp_bv (fr_M_hasBreath _ _ _) (by decide) (List.forall_mem_nil _) (fun s12 => (fp_sm rfl))))))))))))))))))
theorem fr_M_doesSay (v1 : Int32) (s0 : Sg) : fP prI [103, 109, 123, 124] [] s0 (fM_doesSay v1 s0) := by
  unfold fM_doesSay
  exact (fp_bi (fr_M_saysOf _ _) (by decide) (List.forall_mem_nil _) (fun r2 s1 => (fp_bi (fr_M_tiresOf _ _) (by decide) (List.forall_mem_nil _) (fun r4 s3 => (fp_j1 (fun b52_0 s5 => (fp_j0 (fun s6 => (fp_j1 (fun b100_0 s7 => (fp_bv (fr_M_hasBreath _ _ _) (by decide) (List.forall_mem_nil _) (fun s8 => (fp_gb (fp_sm rfl))))) (fun j100 h_j100 => (fp_ite (fp_bi (fr_M_breathOf _ _) (List.forall_mem_nil _) (List.forall_mem_nil _) (fun r10 s9 => (h_j100 _ _))) (fp_bi (fr_M_breathOf _ _) (List.forall_mem_nil _) (List.forall_mem_nil _) (fun r12 s11 => (h_j100 _ _))))))) (fun j76 h_j76 => (fp_ite (h_j76 _) (fp_gd (fp_bv (fr_M_isLast _ _ _ _) (by decide) (List.forall_mem_nil _) (fun s13 => (h_j76 _)))))))) (fun j52 h_j52 => (fp_ite (fp_bi (fr_M_draw _ _) (by decide) (List.forall_mem_nil _) (fun r15 s14 => (fp_ite (h_j52 _ _) (h_j52 _ _)))) (fp_ite (h_j52 _ _) (h_j52 _ _)))))))))
theorem fr_M_sunGoesDown (s0 : Sg) : fP prV [103, 109] [] s0 (fM_sunGoesDown s0) := by
  unfold fM_sunGoesDown
  exact (fp_gd (fp_gd (fp_ptA (by decide) (fun s1 => (fp_gd (fp_bv (fr_M_notes _ _ _ _) (fun _ h => h) (List.forall_mem_nil _) (fun s2 => (fp_lq (fun q29 h_q29 u29 s3 => (fp_ite (fp_sm rfl) (fp_gd (fp_ptA (by decide) (fun s4 => (fp_gd (fp_ptA (by decide) (fun s5 => (fp_gd (fp_ptA (by decide) (fun s6 => (h_q29 _ _))))))))))))))))))))
theorem fr_M_begins (s0 : Sg) : fP prV [103] [] s0 (fM_begins s0) := by
  unfold fM_begins
  exact (fp_lq (fun q2 h_q2 u2 s1 => (fp_j0 (fun s2 => (fp_lq (fun q62 h_q62 u62 s3 => (fp_ite (fp_sm rfl) (fp_gd (fp_gd (fp_j0 (fun s4 => (h_q62 _ _)) (fun j145 h_j145 => (fp_ite (fp_gd (fp_gd (fp_ite (fp_gd (fp_bi (fr_M_isGoing _ _) (List.forall_mem_nil _) (List.forall_mem_nil _) (fun r6 s5 => (fp_ite (fp_gd (fp_gd (fp_gd (fp_ptA (by decide) (fun s7 => (h_j145 _)))))) (h_j145 _))))) (h_j145 _)))) (h_j145 _)))))))))) (fun j60 h_j60 => (fp_ite (h_j60 _) (fp_gd (fp_ite (fp_gd (fp_gd (fp_j0 (fun s8 => (h_q2 _ _)) (fun j53 h_j53 => (fp_ite (fp_gd (fp_gd (fp_ptA (by decide) (fun s9 => (h_j53 _))))) (h_j53 _)))))) (h_j60 _))))))))
theorem fr_M_goesBy (s0 : Sg) : fP prI [103, 109, 123, 124] [] s0 (fM_goesBy s0) := by
  unfold fM_goesBy
  exact (fp_bv (fr_M_begins _) (by decide) (List.forall_mem_nil _) (fun s1 => (fp_lq (fun q8 h_q8 u8 s2 => (fp_j0 (fun s3 => (fp_gd (fp_bi (fr_M_sunset _) (List.forall_mem_nil _) (List.forall_mem_nil _) (fun r5 s4 => (fp_j0 (fun s6 => (fp_gd (fp_gd (fp_ptA (by decide) (fun s7 => (fp_gd (fp_ite (fp_gd (fp_ptA (by decide) (fun s8 => (fp_gd (fp_ptA (by decide) (fun s9 => (fp_gd (fp_ptA (by decide) (fun s10 => (fp_gd (fp_gd (fp_ptA (by decide) (fun s11 => (fp_sm rfl)))))))))))))) (fp_sm rfl)))))))) (fun j91 h_j91 => (fp_ite (fp_bv (fr_M_sunGoesDown _) (by decide) (List.forall_mem_nil _) (fun s12 => (h_j91 _))) (h_j91 _)))))))) (fun j74 h_j74 => (fp_ite (h_j74 _) (fp_gd (fp_bi (fr_M_sunset _) (List.forall_mem_nil _) (List.forall_mem_nil _) (fun r14 s13 => (fp_ite (h_j74 _) (fp_bi (fr_M_isGoing _ _) (List.forall_mem_nil _) (List.forall_mem_nil _) (fun r16 s15 => (fp_j1 (fun a68_1 s17 => (h_q8 _ _)) (fun j68 h_j68 => (fp_ite (h_j68 _ _) (fp_bi (fr_M_isUp _ _) (List.forall_mem_nil _) (List.forall_mem_nil _) (fun r19 s18 => (fp_ite (fp_bv (fr_M_climbsOn _ _) (by decide) (List.forall_mem_nil _) (fun s22 => (h_j68 _ _))) (fp_bi (fr_M_doesSay _ _) (fun _ h => h) (List.forall_mem_nil _) (fun r21 s20 => (fp_ite (h_j68 _ _) (h_j68 _ _)))))))))))))))))))))))
theorem fr_M_minutes (v1 : Int32) (s0 : Sg) : fP prI [103, 104, 109, 123, 124] [(102, 0), (102, 3)] s0 (fM_minutes v1 s0) := by
  unfold fM_minutes
  exact (fp_ptF (by decide) (fun s1 => (fp_bi (fr_M_isIn _ _ _ _) (List.forall_mem_nil _) (List.forall_mem_nil _) (fun r3 s2 => (fp_ite (fp_sm rfl) (fp_gd (fp_ite (fp_lq (fun q36 h_q36 u36 s4 => (fp_ite (fp_sm rfl) (fp_bv (fr_M_keepsAhead _) (by decide) (by decide) (fun s5 => (fp_bi (fr_M_goesBy _) (by decide) (List.forall_mem_nil _) (fun r7 s6 => (h_q36 _ _)))))))) (fp_sm rfl))))))))
theorem fr_M_of (v1 : Int32) (v2 : Int32) (s0 : Sg) : fP prI [123, 124] [(102, 0)] s0 (fM_of v1 v2 s0) := by
  unfold fM_of
  exact (fp_ptF (by decide) (fun s1 => (fp_bi (fr_M_isPerson _ _) (List.forall_mem_nil _) (List.forall_mem_nil _) (fun r3 s2 => (fp_ite (fp_sm rfl) (fp_ite (fp_gd (fp_sm rfl)) (fp_ite (fp_gd (fp_sm rfl)) (fp_ite (fp_gd (fp_sm rfl)) (fp_ite (fp_bi (fr_M_breathOf _ _) (List.forall_mem_nil _) (List.forall_mem_nil _) (fun r13 s12 => (fp_sm rfl))) (fp_ite (fp_gd (fp_sm rfl)) (fp_ite (fp_bi (fr_M_isGoing _ _) (List.forall_mem_nil _) (List.forall_mem_nil _) (fun r11 s10 => (fp_ite (fp_sm rfl) (fp_sm rfl)))) (fp_ite (fp_gd (fp_sm rfl)) (fp_ite (fp_gd (fp_sm rfl)) (fp_ite (fp_bi (fr_M_climbsOf _ _) (fun _ h => h) (List.forall_mem_nil _) (fun r9 s8 => (fp_sm rfl))) (fp_ite (fp_bi (fr_M_tiresOf _ _) (fun _ h => h) (List.forall_mem_nil _) (fun r7 s6 => (fp_sm rfl))) (fp_ite (fp_bi (fr_M_saysOf _ _) (fun _ h => h) (List.forall_mem_nil _) (fun r5 s4 => (fp_sm rfl))) (fp_sm rfl)))))))))))))))))
theorem fr_M_book (v1 : Int32) (v2 : Int32) (s0 : Sg) : fP prI [] [(102, 0)] s0 (fM_book v1 v2 s0) := by
  unfold fM_book
  exact (fp_ptF (by decide) (fun s1 => (fp_gd (fp_bi (fr_M_isIn _ _ _ _) (List.forall_mem_nil _) (List.forall_mem_nil _) (fun r3 s2 => (fp_ite (fp_sm rfl) (fp_bi (fr_M_isIn _ _ _ _) (List.forall_mem_nil _) (List.forall_mem_nil _) (fun r5 s4 => (fp_ite (fp_sm rfl) (fp_gd (fp_sm rfl)))))))))))
theorem fr_M_goes (v1 : Int32) (v2 : Int32) (s0 : Sg) : fP prI [103, 105, 109, 123, 124] [(102, 0), (102, 5)] s0 (fM_goes v1 v2 s0) := by
  unfold fM_goes
  exact (fp_ptF (by decide) (fun s1 => (fp_bi (fr_M_isIn _ _ _ _) (List.forall_mem_nil _) (List.forall_mem_nil _) (fun r3 s2 => (fp_ite (fp_sm rfl) (fp_bi (fr_M_isIn _ _ _ _) (List.forall_mem_nil _) (List.forall_mem_nil _) (fun r5 s4 => (fp_ite (fp_sm rfl) (fp_bv (fr_M_thinks _) (by decide) (by decide) (fun s6 => (fp_lq (fun q35 h_q35 u35 s7 => (fp_ite (fp_lq (fun q59 h_q59 u59 s8 => (fp_ite (fp_j1 (fun b141_0 s9 => (fp_bv (fr_M_endsThought _) (by decide) (by decide) (fun s10 => (fp_sm rfl)))) (fun j141 h_j141 => (fp_ite (fp_gd (h_j141 _ _)) (fp_ite (fp_gd (h_j141 _ _)) (fp_ite (h_j141 _ _) (h_j141 _ _)))))) (fp_bi (fr_M_isUp _ _) (List.forall_mem_nil _) (List.forall_mem_nil _) (fun r12 s11 => (fp_j1 (fun a81_3 s13 => (fp_bi (fr_M_breathOf _ _) (List.forall_mem_nil _) (List.forall_mem_nil _) (fun r15 s14 => (h_q59 _ _)))) (fun j81 h_j81 => (fp_ite (h_j81 _ _) (h_j81 _ _))))))))) (fp_bi (fr_M_goesBy _) (by decide) (List.forall_mem_nil _) (fun r17 s16 => (h_q35 _ _))))))))))))))))
theorem fr_M_keeps (v1 : Int32) (s0 : Sg) : fP prI [103, 105, 109, 123, 124] [(102, 0), (102, 5)] s0 (fM_keeps v1 s0) := by
  unfold fM_keeps
  exact (fp_ptF (by decide) (fun s1 => (fp_bi (fr_M_isIn _ _ _ _) (List.forall_mem_nil _) (List.forall_mem_nil _) (fun r3 s2 => (fp_ite (fp_sm rfl) (fp_bv (fr_M_thinks _) (by decide) (by decide) (fun s4 => (fp_lq (fun q29 h_q29 u29 s5 => (fp_j0 (fun s6 => (fp_j1 (fun b115_0 s7 => (fp_bv (fr_M_endsThought _) (by decide) (by decide) (fun s8 => (fp_sm rfl)))) (fun j115 h_j115 => (fp_ite (fp_gd (h_j115 _ _)) (fp_ite (h_j115 _ _) (fp_gd (h_j115 _ _))))))) (fun j85 h_j85 => (fp_ite (h_j85 _) (fp_ite (fp_bv (fr_M_begins _) (by decide) (List.forall_mem_nil _) (fun s9 => (fp_gd (fp_bi (fr_M_sunset _) (List.forall_mem_nil _) (List.forall_mem_nil _) (fun r11 s10 => (fp_j1 (fun b63_0 s12 => (fp_gd (fp_bi (fr_M_goesBy _) (by decide) (List.forall_mem_nil _) (fun r14 s13 => (h_q29 _ _))))) (fun j63 h_j63 => (fp_ite (h_j63 _ _) (h_j63 _ _))))))))) (h_j85 _))))))))))))))
theorem fr_M_earliest (v1 : Int32) (s0 : Sg) : fP prI [103, 105, 123, 124] [(102, 0), (102, 5)] s0 (fM_earliest v1 s0) := by
  unfold fM_earliest
  exact (fp_ptF (by decide) (fun s1 => (fp_bi (fr_M_isPerson _ _) (List.forall_mem_nil _) (List.forall_mem_nil _) (fun r3 s2 => (fp_ite (fp_sm rfl) (fp_bv (fr_M_thinks _) (by decide) (by decide) (fun s4 => (fp_lq (fun q21 h_q21 u21 s5 => (fp_bi (fr_M_isUp _ _) (List.forall_mem_nil _) (List.forall_mem_nil _) (fun r7 s6 => (fp_j0 (fun s8 => (fp_bv (fr_M_endsThought _) (by decide) (by decide) (fun s9 => (fp_ite (fp_sm rfl) (fp_sm rfl))))) (fun j48 h_j48 => (fp_ite (fp_ite (h_j48 _) (fp_bv (fr_M_climbsOn _ _) (by decide) (List.forall_mem_nil _) (fun s10 => (h_q21 _ _)))) (h_j48 _)))))))))))))))
theorem fr_M_bestFor (v1 : Int32) (s0 : Sg) : fP prI [] [] s0 (fM_bestFor v1 s0) := by
  unfold fM_bestFor
  exact (fp_lq (fun q4 h_q4 u4 s1 => (fp_ite (fp_sm rfl) (fp_gd (fp_bi (fr_M_onesOf _ _) (List.forall_mem_nil _) (List.forall_mem_nil _) (fun r3 s2 => (fp_gd (fp_bi (fr_M_onesOf _ _) (List.forall_mem_nil _) (List.forall_mem_nil _) (fun r5 s4 => (fp_j1 (fun a39_2 s6 => (h_q4 _ _)) (fun j39 h_j39 => (fp_ite (h_j39 _ _) (h_j39 _ _)))))))))))))
theorem fr_M_findsFewest (s0 : Sg) : fP prV [125] [] s0 (fM_findsFewest s0) := by
  unfold fM_findsFewest
  exact (fp_lq (fun q2 h_q2 u2 s1 => (fp_ite (fp_lq (fun q34 h_q34 u34 s2 => (fp_ite (fp_sm rfl) (fp_lq (fun q42 h_q42 u42 s3 => (fp_ite (h_q34 _ _) (fp_gd (fp_gd (fp_gd (fp_bi (fr_M_lesser _ _ _) (List.forall_mem_nil _) (List.forall_mem_nil _) (fun r5 s4 => (fp_gd (fp_ptA (by decide) (fun s6 => (h_q42 _ _))))))))))))))) (fp_j1 (fun b25_0 s7 => (fp_gd (fp_ptA (by decide) (fun s8 => (h_q2 _ _))))) (fun j25 h_j25 => (fp_ite (h_j25 _ _) (h_j25 _ _)))))))
theorem fr_M_coverOf (v1 : Int32) (s0 : Sg) : fP prI [] [] s0 (fM_coverOf v1 s0) := by
  unfold fM_coverOf
  exact (fp_gd (fp_nm (fun x1 => (fp_lq (fun q20 h_q20 u20 s2 => (fp_ite (fp_sm rfl) (fp_gd (fp_j3 (fun a71_2 a71_3 a71_4 s3 => (h_q20 _ _)) (fun j71 h_j71 => (fp_ite (fp_nm (fun x4 => (fp_gd (fp_nm (fun x5 => (h_j71 _ _ _ _)))))) (h_j71 _ _ _ _)))))))))))
theorem fr_M_fits (v1 : Int32) (v2 : Int32) (s0 : Sg) : fP prI [125] [(102, 0)] s0 (fM_fits v1 v2 s0) := by
  unfold fM_fits
  exact (fp_ptF (by decide) (fun s1 => (fp_ite (fp_bi (fr_M_isIn _ _ _ _) (List.forall_mem_nil _) (List.forall_mem_nil _) (fun r13 s12 => (fp_ite (fp_sm rfl) (fp_gd (fp_sm rfl))))) (fp_bi (fr_M_isIn _ _ _ _) (List.forall_mem_nil _) (List.forall_mem_nil _) (fun r3 s2 => (fp_ite (fp_sm rfl) (fp_bi (fr_M_isIn _ _ _ _) (List.forall_mem_nil _) (List.forall_mem_nil _) (fun r5 s4 => (fp_ite (fp_sm rfl) (fp_ite (fp_bi (fr_M_bestFor _ _) (List.forall_mem_nil _) (List.forall_mem_nil _) (fun r11 s10 => (fp_sm rfl))) (fp_bv (fr_M_findsFewest _) (fun _ h => h) (List.forall_mem_nil _) (fun s6 => (fp_gd (fp_nm (fun x7 => (fp_ite (fp_ite (fp_sm rfl) (fp_bi (fr_M_coverOf _ _) (List.forall_mem_nil _) (List.forall_mem_nil _) (fun r9 s8 => (fp_sm rfl)))) (fp_sm rfl)))))))))))))))))
theorem fr_M_answer (v1 : Int32) (v2 : Int32) (s0 : Sg) : fP prI [126, 127] [(102, 0), (102, 43)] s0 (fM_answer v1 v2 s0) := by
  unfold fM_answer
  exact (fp_ptF (by decide) (fun s1 => (fp_ite (fp_ptF (by decide) (fun s8 => (fp_sm rfl))) (fp_bi (fr_M_isIn _ _ _ _) (List.forall_mem_nil _) (List.forall_mem_nil _) (fun r3 s2 => (fp_ite (fp_sm rfl) (fp_ite (fp_sm rfl) (fp_gd (fp_ptA (by decide) (fun s4 => (fp_j1 (fun b66_0 s5 => (fp_gd (fp_ptA (by decide) (fun s6 => (fp_ptF (by decide) (fun s7 => (fp_sm rfl))))))) (fun j66 h_j66 => (fp_ite (h_j66 _ _) (h_j66 _ _))))))))))))))
theorem fr_M_suitOf (v1 : Int32) (s0 : Sg) : fP prI [] [] s0 (fM_suitOf v1 s0) := by
  unfold fM_suitOf
  exact (fp_ite (fp_sm rfl) (fp_gd (fp_sm rfl)))
theorem fr_M_couldSet (s0 : Sg) : fP prI [] [] s0 (fM_couldSet s0) := by
  unfold fM_couldSet
  exact (fp_lq (fun q4 h_q4 u4 s1 => (fp_ite (fp_sm rfl) (fp_lq (fun q15 h_q15 u15 s2 => (fp_ite (fp_j1 (fun a67_1 s3 => (h_q4 _ _)) (fun j67 h_j67 => (fp_ite (h_j67 _ _) (fp_nm (fun x4 => (h_j67 _ _)))))) (fp_bi (fr_M_suitOf _ _) (List.forall_mem_nil _) (List.forall_mem_nil _) (fun r6 s5 => (fp_gd (fp_gd (fp_j1 (fun a51_3 s7 => (h_q15 _ _)) (fun j51 h_j51 => (fp_ite (h_j51 _ _) (h_j51 _ _))))))))))))))
theorem fr_M_could (v1 : Int32) (s0 : Sg) : fP prI [] [(102, 0)] s0 (fM_could v1 s0) := by
  unfold fM_could
  exact (fp_ptF (by decide) (fun s1 => (fp_bi (fr_M_isIn _ _ _ _) (List.forall_mem_nil _) (List.forall_mem_nil _) (fun r3 s2 => (fp_ite (fp_sm rfl) (fp_bi (fr_M_couldSet _) (List.forall_mem_nil _) (List.forall_mem_nil _) (fun r5 s4 => (fp_ite (fp_sm rfl) (fp_bi (fr_M_onesOf _ _) (List.forall_mem_nil _) (List.forall_mem_nil _) (fun r7 s6 => (fp_ite (fp_lq (fun q52 h_q52 u52 s8 => (fp_ite (fp_sm rfl) (fp_lq (fun q65 h_q65 u65 s9 => (fp_ite (fp_bi (fr_M_greater _ _ _) (List.forall_mem_nil _) (List.forall_mem_nil _) (fun r11 s10 => (fp_j1 (fun b136_0 s12 => (fp_bi (fr_M_lesser _ _ _) (List.forall_mem_nil _) (List.forall_mem_nil _) (fun r14 s13 => (h_q52 _ _)))) (fun j136 h_j136 => (fp_ite (h_j136 _ _) (h_j136 _ _)))))) (fp_bi (fr_M_has _ _ _) (List.forall_mem_nil _) (List.forall_mem_nil _) (fun r16 s15 => (fp_j1 (fun a104_7 s17 => (h_q65 _ _)) (fun j104 h_j104 => (fp_ite (h_j104 _ _) (fp_gd (fp_bi (fr_M_has _ _ _) (List.forall_mem_nil _) (List.forall_mem_nil _) (fun r19 s18 => (fp_ite (h_j104 _ _) (h_j104 _ _)))))))))))))))) (fp_sm rfl))))))))))))
theorem fr_M_watch (v1 : Int32) (v2 : Int32) (s0 : Sg) : fP prI [128, 129] [(102, 0), (102, 46)] s0 (fM_watch v1 v2 s0) := by
  unfold fM_watch
  exact (fp_ptF (by decide) (fun s1 => (fp_ite (fp_ptF (by decide) (fun s9 => (fp_sm rfl))) (fp_bi (fr_M_isIn _ _ _ _) (List.forall_mem_nil _) (List.forall_mem_nil _) (fun r3 s2 => (fp_ite (fp_sm rfl) (fp_bi (fr_M_isIn _ _ _ _) (List.forall_mem_nil _) (List.forall_mem_nil _) (fun r5 s4 => (fp_ite (fp_sm rfl) (fp_ite (fp_sm rfl) (fp_gd (fp_ptA (by decide) (fun s6 => (fp_gd (fp_ptA (by decide) (fun s7 => (fp_ptF (by decide) (fun s8 => (fp_sm rfl)))))))))))))))))))
theorem fr_M_fewestWatches (v1 : Int32) (s0 : Sg) : fP prI [] [] s0 (fM_fewestWatches v1 s0) := by
  unfold fM_fewestWatches
  exact (fp_lq (fun q4 h_q4 u4 s1 => (fp_ite (fp_sm rfl) (fp_lq (fun q16 h_q16 u16 s2 => (fp_ite (fp_ite (fp_sm rfl) (h_q4 _ _)) (fp_gd (fp_gd (fp_bi (fr_M_isIn _ _ _ _) (List.forall_mem_nil _) (List.forall_mem_nil _) (fun r4 s3 => (fp_j1 (fun a62_4 s5 => (h_q16 _ _)) (fun j62 h_j62 => (fp_ite (h_j62 _ _) (fp_gd (fp_bi (fr_M_greater _ _ _) (List.forall_mem_nil _) (List.forall_mem_nil _) (fun r7 s6 => (h_j62 _ _)))))))))))))))))
theorem fr_M_guard (v1 : Int32) (v2 : Int32) (s0 : Sg) : fP prI [] [(102, 0)] s0 (fM_guard v1 v2 s0) := by
  unfold fM_guard
  exact (fp_ptF (by decide) (fun s1 => (fp_bi (fr_M_isIn _ _ _ _) (List.forall_mem_nil _) (List.forall_mem_nil _) (fun r3 s2 => (fp_ite (fp_sm rfl) (fp_bi (fr_M_isIn _ _ _ _) (List.forall_mem_nil _) (List.forall_mem_nil _) (fun r5 s4 => (fp_ite (fp_sm rfl) (fp_bi (fr_M_fewestWatches _ _) (List.forall_mem_nil _) (List.forall_mem_nil _) (fun r7 s6 => (fp_j0 (fun s8 => (fp_sm rfl)) (fun j45 h_j45 => (fp_ite (h_j45 _) (fp_ite (h_j45 _) (fp_ite (fp_sm rfl) (fp_sm rfl))))))))))))))))
theorem fr_M_step (v1 : Int32) (v2 : Int32) (v3 : Int32) (s0 : Sg) : fP prI [130] [(102, 0), (102, 49)] s0 (fM_step v1 v2 v3 s0) := by
  unfold fM_step
  exact (fp_ptF (by decide) (fun s1 => (fp_ite (fp_ptF (by decide) (fun s11 => (fp_lq (fun q18 h_q18 u18 s12 => (fp_ite (fp_sm rfl) (fp_gd (fp_ptA (by decide) (fun s13 => (h_q18 _ _))))))))) (fp_bi (fr_M_isIn _ _ _ _) (List.forall_mem_nil _) (List.forall_mem_nil _) (fun r3 s2 => (fp_ite (fp_sm rfl) (fp_bi (fr_M_isIn _ _ _ _) (List.forall_mem_nil _) (List.forall_mem_nil _) (fun r5 s4 => (fp_ite (fp_sm rfl) (fp_bi (fr_M_isIn _ _ _ _) (List.forall_mem_nil _) (List.forall_mem_nil _) (fun r7 s6 => (fp_ite (fp_sm rfl) (fp_ite (fp_sm rfl) (fp_gd (fp_j0 (fun s8 => (fp_ptF (by decide) (fun s9 => (fp_sm rfl)))) (fun j114 h_j114 => (fp_ite (fp_gd (fp_ptA (by decide) (fun s10 => (h_j114 _)))) (h_j114 _))))))))))))))))))
theorem fr_M_ledFrom (v1 : Int32) (v2 : Int32) (s0 : Sg) : fP prI [] [] s0 (fM_ledFrom v1 v2 s0) := by
  unfold fM_ledFrom
  exact (fp_lq (fun q5 h_q5 u5 s1 => (fp_ite (fp_sm rfl) (fp_lq (fun q15 h_q15 u15 s2 => (fp_ite (h_q5 _ _) (fp_bi (fr_M_has _ _ _) (List.forall_mem_nil _) (List.forall_mem_nil _) (fun r4 s3 => (fp_j1 (fun a79_3 s5 => (h_q15 _ _)) (fun j79 h_j79 => (fp_ite (h_j79 _ _) (fp_j0 (fun s6 => (fp_gd (fp_ite (h_j79 _ _) (fp_gd (fp_nm (fun x7 => (h_j79 _ _))))))) (fun j43 h_j43 => (fp_ite (h_j43 _) (fp_ite (h_j43 _) (h_j79 _ _))))))))))))))))
theorem fr_M_down (v1 : Int32) (v2 : Int32) (v3 : Int32) (s0 : Sg) : fP prI [] [(102, 0)] s0 (fM_down v1 v2 v3 s0) := by
  unfold fM_down
  exact (fp_ptF (by decide) (fun s1 => (fp_bi (fr_M_isIn _ _ _ _) (List.forall_mem_nil _) (List.forall_mem_nil _) (fun r3 s2 => (fp_ite (fp_sm rfl) (fp_bi (fr_M_isIn _ _ _ _) (List.forall_mem_nil _) (List.forall_mem_nil _) (fun r5 s4 => (fp_ite (fp_sm rfl) (fp_bi (fr_M_isIn _ _ _ _) (List.forall_mem_nil _) (List.forall_mem_nil _) (fun r7 s6 => (fp_ite (fp_sm rfl) (fp_lq (fun q48 h_q48 u48 s8 => (fp_ite (fp_sm rfl) (fp_bi (fr_M_has _ _ _) (List.forall_mem_nil _) (List.forall_mem_nil _) (fun r10 s9 => (fp_ite (fp_bi (fr_M_ledFrom _ _ _) (List.forall_mem_nil _) (List.forall_mem_nil _) (fun r12 s11 => (h_q48 _ _))) (fp_sm rfl))))))))))))))))))
theorem fr_M_spell (v1 : Int32) (v2 : Int32) (v3 : Int32) (s0 : Sg) : fP prI [131, 132] [(102, 0)] s0 (fM_spell v1 v2 v3 s0) := by
  unfold fM_spell
  exact (fp_ptF (by decide) (fun s1 => (fp_bi (fr_M_isIn _ _ _ _) (List.forall_mem_nil _) (List.forall_mem_nil _) (fun r3 s2 => (fp_ite (fp_gb (fp_sm rfl)) (fp_bi (fr_M_isIn _ _ _ _) (List.forall_mem_nil _) (List.forall_mem_nil _) (fun r5 s4 => (fp_ite (fp_gb (fp_sm rfl)) (fp_lq (fun q34 h_q34 u34 s6 => (fp_ite (fp_bi (fr_M_isIn _ _ _ _) (List.forall_mem_nil _) (List.forall_mem_nil _) (fun r8 s7 => (fp_ite (fp_gb (fp_sm rfl)) (fp_gd (fp_ptA (by decide) (fun s9 => (fp_lq (fun q83 h_q83 u83 s10 => (fp_ite (fp_gb (fp_sm rfl)) (fp_gz (fp_gd (fp_ptA (by decide) (fun s11 => (fp_gz (h_q83 _ _))))))))))))))) (h_q34 _ _))))))))))))
theorem fr_M_goOver (v1 : Int32) (v2 : Int32) (s0 : Sg) : fP prI [] [] s0 (fM_goOver v1 v2 s0) := by
  unfold fM_goOver
  exact (fp_gd (fp_gd (fp_ite (fp_lq (fun q22 h_q22 u22 s1 => (fp_gd (fp_ite (fp_ite (fp_gb (fp_sm rfl)) (fp_gb (fp_sm rfl))) (fp_gd (fp_gd (fp_j1 (fun a62_3 s2 => (h_q22 _ _)) (fun j62 h_j62 => (fp_ite (h_j62 _ _) (h_j62 _ _)))))))))) (fp_gb (fp_sm rfl)))))
theorem fr_M_overFrom (v1 : Int32) (s0 : Sg) : fP prI [] [] s0 (fM_overFrom v1 s0) := by
  unfold fM_overFrom
  exact (fp_lq (fun q4 h_q4 u4 s1 => (fp_ite (fp_sm rfl) (fp_lq (fun q13 h_q13 u13 s2 => (fp_ite (h_q4 _ _) (fp_bi (fr_M_has _ _ _) (List.forall_mem_nil _) (List.forall_mem_nil _) (fun r4 s3 => (fp_j1 (fun a46_2 s5 => (h_q13 _ _)) (fun j46 h_j46 => (fp_ite (h_j46 _ _) (fp_bi (fr_M_goOver _ _ _) (List.forall_mem_nil _) (List.forall_mem_nil _) (fun r7 s6 => (fp_ite (h_j46 _ _) (fp_nm (fun x8 => (h_j46 _ _)))))))))))))))))
theorem fr_M_over (v1 : Int32) (v2 : Int32) (s0 : Sg) : fP prI [] [(102, 0)] s0 (fM_over v1 v2 s0) := by
  unfold fM_over
  exact (fp_ptF (by decide) (fun s1 => (fp_bi (fr_M_isIn _ _ _ _) (List.forall_mem_nil _) (List.forall_mem_nil _) (fun r3 s2 => (fp_ite (fp_sm rfl) (fp_bi (fr_M_isIn _ _ _ _) (List.forall_mem_nil _) (List.forall_mem_nil _) (fun r5 s4 => (fp_ite (fp_sm rfl) (fp_lq (fun q36 h_q36 u36 s6 => (fp_ite (fp_ite (fp_bi (fr_M_onesOf _ _) (List.forall_mem_nil _) (List.forall_mem_nil _) (fun r8 s7 => (fp_sm rfl))) (fp_sm rfl)) (fp_j0 (fun s9 => (fp_bi (fr_M_overFrom _ _) (List.forall_mem_nil _) (List.forall_mem_nil _) (fun r11 s10 => (h_q36 _ _)))) (fun j60 h_j60 => (fp_ite (h_j60 _) (fp_bi (fr_M_has _ _ _) (List.forall_mem_nil _) (List.forall_mem_nil _) (fun r13 s12 => (fp_ite (h_j60 _) (fp_sm rfl))))))))))))))))))
theorem fr_M_speaker (v1 : Int32) (v2 : Int32) (s0 : Sg) : fP prI [133, 134] [(102, 0), (102, 53)] s0 (fM_speaker v1 v2 s0) := by
  unfold fM_speaker
  exact (fp_ptF (by decide) (fun s1 => (fp_ite (fp_ptF (by decide) (fun s9 => (fp_sm rfl))) (fp_bi (fr_M_isIn _ _ _ _) (List.forall_mem_nil _) (List.forall_mem_nil _) (fun r3 s2 => (fp_ite (fp_sm rfl) (fp_bi (fr_M_isIn _ _ _ _) (List.forall_mem_nil _) (List.forall_mem_nil _) (fun r5 s4 => (fp_ite (fp_sm rfl) (fp_ite (fp_sm rfl) (fp_gd (fp_ptA (by decide) (fun s6 => (fp_gd (fp_ptA (by decide) (fun s7 => (fp_ptF (by decide) (fun s8 => (fp_sm rfl)))))))))))))))))))
theorem fr_M_spokenBy (s0 : Sg) : fP prI [] [] s0 (fM_spokenBy s0) := by
  unfold fM_spokenBy
  exact (fp_lq (fun q6 h_q6 u6 s1 => (fp_ite (fp_sm rfl) (fp_gd (fp_gd (fp_j2 (fun a50_1 a50_2 s2 => (h_q6 _ _)) (fun j50 h_j50 => (fp_ite (fp_gd (fp_gd (fp_nm (fun x3 => (h_j50 _ _ _))))) (h_j50 _ _ _)))))))))
theorem fr_M_goesToNextOrder (s0 : Sg) : fP prI [135] [] s0 (fM_goesToNextOrder s0) := by
  unfold fM_goesToNextOrder
  exact (fp_lq (fun q7 h_q7 u7 s1 => (fp_j0 (fun s2 => (fp_ite (fp_lq (fun q48 h_q48 u48 s3 => (fp_gd (fp_gd (fp_ite (fp_gd (fp_gd (fp_gd (fp_ptA (by decide) (fun s4 => (fp_gd (fp_ptA (by decide) (fun s5 => (fp_lq (fun q101 h_q101 u101 s6 => (fp_ite (fp_gb (fp_sm rfl)) (fp_nm (fun x7 => (fp_gd (fp_gd (fp_gd (fp_ptA (by decide) (fun s8 => (fp_gd (fp_ptA (by decide) (fun s9 => (h_q101 _ _)))))))))))))))))))))) (h_q48 _ _)))))) (fp_gb (fp_sm rfl)))) (fun j35 h_j35 => (fp_ite (h_j35 _) (fp_gd (fp_gd (fp_ite (h_j35 _) (h_q7 _ _)))))))))
theorem fr_M_council (v1 : Int32) (s0 : Sg) : fP prI [135, 136] [(102, 0)] s0 (fM_council v1 s0) := by
  unfold fM_council
  exact (fp_ptF (by decide) (fun s1 => (fp_j0 (fun s2 => (fp_lq (fun q30 h_q30 u30 s3 => (fp_ite (fp_lq (fun q55 h_q55 u55 s4 => (fp_ite (fp_ite (fp_sm rfl) (fp_gd (fp_sm rfl))) (fp_bi (fr_M_spokenBy _) (List.forall_mem_nil _) (List.forall_mem_nil _) (fun r6 s5 => (fp_lq (fun q68 h_q68 u68 s7 => (fp_j0 (fun s8 => (fp_bi (fr_M_greater _ _ _) (List.forall_mem_nil _) (List.forall_mem_nil _) (fun r10 s9 => (fp_bi (fr_M_goesToNextOrder _) (by decide) (List.forall_mem_nil _) (fun r12 s11 => (h_q55 _ _)))))) (fun j103 h_j103 => (fp_ite (h_j103 _) (fp_ite (h_j103 _) (fp_gd (fp_gd (fp_ptA (by decide) (fun s13 => (h_q68 _ _)))))))))))))))) (fp_gd (fp_ptA (by decide) (fun s14 => (h_q30 _ _)))))))) (fun j28 h_j28 => (fp_ite (h_j28 _) (fp_bi (fr_M_isIn _ _ _ _) (List.forall_mem_nil _) (List.forall_mem_nil _) (fun r16 s15 => (fp_ite (fp_sm rfl) (h_j28 _)))))))))
theorem fr_M_rule (v1 : Int32) (v2 : Int32) (v3 : Int32) (s0 : Sg) : fP prI [] [(102, 0), (102, 58), (102, 59), (102, 60)] s0 (fM_rule v1 v2 v3 s0) := by
  unfold fM_rule
  exact (fp_ptF (by decide) (fun s1 => (fp_bi (fr_M_isIn _ _ _ _) (List.forall_mem_nil _) (List.forall_mem_nil _) (fun r3 s2 => (fp_ite (fp_gb (fp_sm rfl)) (fp_bi (fr_M_isIn _ _ _ _) (List.forall_mem_nil _) (List.forall_mem_nil _) (fun r5 s4 => (fp_ite (fp_gb (fp_sm rfl)) (fp_bi (fr_M_isIn _ _ _ _) (List.forall_mem_nil _) (List.forall_mem_nil _) (fun r7 s6 => (fp_ite (fp_gb (fp_sm rfl)) (fp_ptF (by decide) (fun s8 => (fp_ptF (by decide) (fun s9 => (fp_ptF (by decide) (fun s10 => (fp_gb (fp_sm rfl)))))))))))))))))))
theorem fr_M_thing (v1 : Int32) (v2 : Int32) (s0 : Sg) : fP prI [137] [(102, 0)] s0 (fM_thing v1 v2 s0) := by
  unfold fM_thing
  exact (fp_ptF (by decide) (fun s1 => (fp_bi (fr_M_isIn _ _ _ _) (List.forall_mem_nil _) (List.forall_mem_nil _) (fun r3 s2 => (fp_ite (fp_sm rfl) (fp_bi (fr_M_isIn _ _ _ _) (List.forall_mem_nil _) (List.forall_mem_nil _) (fun r5 s4 => (fp_ite (fp_sm rfl) (fp_lq (fun q41 h_q41 u41 s6 => (fp_ite (fp_gz (fp_nm (fun x7 => (fp_lq (fun q71 h_q71 u71 s8 => (fp_gd (fp_ite (fp_gd (fp_ptA (by decide) (fun s9 => (fp_gz (fp_nm (fun x10 => (h_q71 _ _))))))) (fp_ite (fp_gd (fp_sm rfl)) (fp_gd (fp_sm rfl)))))))))) (fp_gd (fp_ptA (by decide) (fun s11 => (h_q41 _ _)))))))))))))))
theorem fr_M_price (v1 : Int32) (s0 : Sg) : fP prI [138] [(102, 0), (102, 62)] s0 (fM_price v1 s0) := by
  unfold fM_price
  exact (fp_ptF (by decide) (fun s1 => (fp_ite (fp_ptF (by decide) (fun s6 => (fp_sm rfl))) (fp_bi (fr_M_isIn _ _ _ _) (List.forall_mem_nil _) (List.forall_mem_nil _) (fun r3 s2 => (fp_ite (fp_sm rfl) (fp_ite (fp_sm rfl) (fp_gd (fp_ptA (by decide) (fun s4 => (fp_ptF (by decide) (fun s5 => (fp_sm rfl)))))))))))))
theorem fr_M_isHeard (v1 : Int32) (v2 : Int32) (s0 : Sg) : fP prI [] [] s0 (fM_isHeard v1 v2 s0) := by
  unfold fM_isHeard
  exact (fp_bi (fr_M_greater _ _ _) (List.forall_mem_nil _) (List.forall_mem_nil _) (fun r2 s1 => (fp_lq (fun q9 h_q9 u9 s3 => (fp_ite (fp_gb (fp_sm rfl)) (fp_gd (fp_gd (fp_ite (h_q9 _ _) (fp_gb (fp_sm rfl))))))))))
theorem fr_M_prices (v1 : Int32) (v2 : Int32) (s0 : Sg) : fP prI [] [(102, 0)] s0 (fM_prices v1 v2 s0) := by
  unfold fM_prices
  exact (fp_ptF (by decide) (fun s1 => (fp_bi (fr_M_isIn _ _ _ _) (List.forall_mem_nil _) (List.forall_mem_nil _) (fun r3 s2 => (fp_ite (fp_sm rfl) (fp_bi (fr_M_isIn _ _ _ _) (List.forall_mem_nil _) (List.forall_mem_nil _) (fun r5 s4 => (fp_ite (fp_sm rfl) (fp_lq (fun q32 h_q32 u32 s6 => (fp_ite (fp_sm rfl) (fp_bi (fr_M_isHeard _ _ _) (List.forall_mem_nil _) (List.forall_mem_nil _) (fun r8 s7 => (fp_j1 (fun a69_3 s9 => (h_q32 _ _)) (fun j69 h_j69 => (fp_ite (h_j69 _ _) (fp_j1 (fun b67_0 s10 => (h_j69 _ _)) (fun j67 h_j67 => (fp_ite (h_j67 _ _) (fp_gd (h_j67 _ _)))))))))))))))))))))
theorem fr_M_bell (v1 : Int32) (v2 : Int32) (s0 : Sg) : fP prI [] [(102, 0)] s0 (fM_bell v1 v2 s0) := by
  unfold fM_bell
  exact (fp_ptF (by decide) (fun s1 => (fp_bi (fr_M_isIn _ _ _ _) (List.forall_mem_nil _) (List.forall_mem_nil _) (fun r3 s2 => (fp_ite (fp_sm rfl) (fp_bi (fr_M_isIn _ _ _ _) (List.forall_mem_nil _) (List.forall_mem_nil _) (fun r5 s4 => (fp_ite (fp_sm rfl) (fp_lq (fun q33 h_q33 u33 s6 => (fp_ite (fp_sm rfl) (fp_bi (fr_M_onesOf _ _) (List.forall_mem_nil _) (List.forall_mem_nil _) (fun r8 s7 => (fp_j1 (fun a70_3 s9 => (h_q33 _ _)) (fun j70 h_j70 => (fp_ite (fp_ite (h_j70 _ _) (h_j70 _ _)) (h_j70 _ _)))))))))))))))))
theorem fr_M_worth (v1 : Int32) (v2 : Int32) (s0 : Sg) : fP prI [139] [(102, 0)] s0 (fM_worth v1 v2 s0) := by
  unfold fM_worth
  exact (fp_ptF (by decide) (fun s1 => (fp_bi (fr_M_isIn _ _ _ _) (List.forall_mem_nil _) (List.forall_mem_nil _) (fun r3 s2 => (fp_ite (fp_gb (fp_sm rfl)) (fp_bi (fr_M_isIn _ _ _ _) (List.forall_mem_nil _) (List.forall_mem_nil _) (fun r5 s4 => (fp_ite (fp_gb (fp_sm rfl)) (fp_gd (fp_ptA (by decide) (fun s6 => (fp_gb (fp_sm rfl)))))))))))))
theorem fr_M_isThere (v1 : Int32) (s0 : Sg) : fP prI [] [] s0 (fM_isThere v1 s0) := by
  unfold fM_isThere
  exact (fp_lq (fun q2 h_q2 u2 s1 => (fp_ite (fp_gb (fp_sm rfl)) (fp_gd (fp_j0 (fun s2 => (h_q2 _ _)) (fun j30 h_j30 => (fp_ite (fp_bi (fr_M_isUp _ _) (List.forall_mem_nil _) (List.forall_mem_nil _) (fun r4 s3 => (fp_ite (h_j30 _) (fp_gb (fp_sm rfl))))) (h_j30 _))))))))
theorem fr_M_worths (s0 : Sg) : fP prI [] [(102, 0)] s0 (fM_worths s0) := by
  unfold fM_worths
  exact (fp_ptF (by decide) (fun s1 => (fp_lq (fun q9 h_q9 u9 s2 => (fp_ite (fp_sm rfl) (fp_lq (fun q16 h_q16 u16 s3 => (fp_ite (h_q9 _ _) (fp_bi (fr_M_isThere _ _) (List.forall_mem_nil _) (List.forall_mem_nil _) (fun r5 s4 => (fp_j1 (fun a56_1 s6 => (h_q16 _ _)) (fun j56 h_j56 => (fp_ite (h_j56 _ _) (fp_bi (fr_M_isThere _ _) (List.forall_mem_nil _) (List.forall_mem_nil _) (fun r8 s7 => (fp_ite (h_j56 _ _) (fp_gd (fp_gd (fp_bi (fr_M_greater _ _ _) (List.forall_mem_nil _) (List.forall_mem_nil _) (fun r10 s9 => (h_j56 _ _)))))))))))))))))))))
theorem fr_M_findsNimbers (s0 : Sg) : fP prV [140] [] s0 (fM_findsNimbers s0) := by
  unfold fM_findsNimbers
  exact (fp_lq (fun q2 h_q2 u2 s1 => (fp_ite (fp_sm rfl) (fp_lq (fun q12 h_q12 u12 s2 => (fp_ite (fp_lq (fun q42 h_q42 u42 s3 => (fp_bi (fr_M_has _ _ _) (List.forall_mem_nil _) (List.forall_mem_nil _) (fun r5 s4 => (fp_ite (fp_gd (fp_ptA (by decide) (fun s6 => (h_q2 _ _)))) (h_q42 _ _)))))) (fp_gd (fp_nm (fun x7 => (h_q12 _ _))))))))))
theorem fr_M_game (v1 : Int32) (s0 : Sg) : fP prI [140] [(102, 0)] s0 (fM_game v1 s0) := by
  unfold fM_game
  exact (fp_ptF (by decide) (fun s1 => (fp_bi (fr_M_isIn _ _ _ _) (List.forall_mem_nil _) (List.forall_mem_nil _) (fun r3 s2 => (fp_ite (fp_sm rfl) (fp_bv (fr_M_findsNimbers _) (fun _ h => h) (List.forall_mem_nil _) (fun s4 => (fp_lq (fun q25 h_q25 u25 s5 => (fp_ite (fp_lq (fun q54 h_q54 u54 s6 => (fp_ite (fp_sm rfl) (fp_bi (fr_M_breathOf _ _) (List.forall_mem_nil _) (List.forall_mem_nil _) (fun r8 s7 => (fp_gd (fp_nm (fun x9 => (fp_lq (fun q83 h_q83 u83 s10 => (fp_ite (h_q54 _ _) (fp_gd (fp_ite (fp_ite (fp_sm rfl) (fp_sm rfl)) (h_q83 _ _)))))))))))))) (fp_bi (fr_M_breathOf _ _) (List.forall_mem_nil _) (List.forall_mem_nil _) (fun r12 s11 => (fp_gd (fp_nm (fun x13 => (h_q25 _ _))))))))))))))))
theorem fr_M_keptOf (v1 : Int32) (s0 : Sg) : fP prI [141] [(102, 68)] s0 (fM_keptOf v1 s0) := by
  unfold fM_keptOf
  exact (fp_ptF (by decide) (fun s1 => (fp_ite (fp_gd (fp_sm rfl)) (fp_gd (fp_ptA (by decide) (fun s2 => (fp_sm rfl)))))))
theorem fr_M_keepsLaw (s0 : Sg) : fP prV [112, 113, 114, 115, 116, 117, 118, 141] [(102, 68)] s0 (fM_keepsLaw s0) := by
  unfold fM_keepsLaw
  exact (fp_gd (fp_bi (fr_M_keptOf _ _) (by decide) (fun _ h => Or.inl h) (fun r2 s1 => (fp_gd (fp_ptA (by decide) (fun s3 => (fp_lq (fun q18 h_q18 u18 s4 => (fp_ite (fp_lq (fun q96 h_q96 u96 s5 => (fp_ite (fp_sm rfl) (fp_gd (fp_bi (fr_M_keptOf _ _) (by decide) (fun _ h => Or.inl h) (fun r7 s6 => (fp_gd (fp_ptA (by decide) (fun s8 => (fp_gd (fp_bi (fr_M_keptOf _ _) (by decide) (fun _ h => Or.inl h) (fun r10 s9 => (fp_gd (fp_ptA (by decide) (fun s11 => (h_q96 _ _)))))))))))))))) (fp_gd (fp_bi (fr_M_keptOf _ _) (by decide) (fun _ h => Or.inl h) (fun r13 s12 => (fp_gd (fp_ptA (by decide) (fun s14 => (fp_gd (fp_bi (fr_M_keptOf _ _) (by decide) (fun _ h => Or.inl h) (fun r16 s15 => (fp_gd (fp_ptA (by decide) (fun s17 => (fp_gd (fp_bi (fr_M_keptOf _ _) (by decide) (fun _ h => Or.inl h) (fun r19 s18 => (fp_gd (fp_ptA (by decide) (fun s20 => (fp_gd (fp_bi (fr_M_keptOf _ _) (by decide) (fun _ h => Or.inl h) (fun r22 s21 => (fp_gd (fp_ptA (by decide) (fun s23 => (h_q18 _ _))))))))))))))))))))))))))))))))))
theorem fr_M_keepsMany (s0 : Sg) : fP prV [141] [(102, 6), (102, 34), (102, 36), (102, 38), (102, 43), (102, 46), (102, 49), (102, 53), (102, 58), (102, 59), (102, 60), (102, 62), (102, 68)] s0 (fM_keepsMany s0) := by
  unfold fM_keepsMany
  exact (fp_bi (fr_M_keptOf _ _) (fun _ h => h) (by decide) (fun r2 s1 => (fp_ptF (by decide) (fun s3 => (fp_bi (fr_M_keptOf _ _) (fun _ h => h) (by decide) (fun r5 s4 => (fp_ptF (by decide) (fun s6 => (fp_bi (fr_M_keptOf _ _) (fun _ h => h) (by decide) (fun r8 s7 => (fp_ptF (by decide) (fun s9 => (fp_bi (fr_M_keptOf _ _) (fun _ h => h) (by decide) (fun r11 s10 => (fp_ptF (by decide) (fun s12 => (fp_bi (fr_M_keptOf _ _) (fun _ h => h) (by decide) (fun r14 s13 => (fp_ptF (by decide) (fun s15 => (fp_bi (fr_M_keptOf _ _) (fun _ h => h) (by decide) (fun r17 s16 => (fp_ptF (by decide) (fun s18 => (fp_bi (fr_M_keptOf _ _) (fun _ h => h) (by decide) (fun r20 s19 => (fp_ptF (by decide) (fun s21 => (fp_bi (fr_M_keptOf _ _) (fun _ h => h) (by decide) (fun r23 s22 => (fp_ptF (by decide) (fun s24 => (fp_bi (fr_M_keptOf _ _) (fun _ h => h) (by decide) (fun r26 s25 => (fp_ptF (by decide) (fun s27 => (fp_bi (fr_M_keptOf _ _) (fun _ h => h) (by decide) (fun r29 s28 => (fp_ptF (by decide) (fun s30 => (fp_bi (fr_M_keptOf _ _) (fun _ h => h) (by decide) (fun r32 s31 => (fp_ptF (by decide) (fun s33 => (fp_bi (fr_M_keptOf _ _) (fun _ h => h) (by decide) (fun r35 s34 => (fp_ptF (by decide) (fun s36 => (fp_sm rfl)))))))))))))))))))))))))))))))))))))))))))))))))
theorem fr_M_keepsTold (s0 : Sg) : fP prV [106, 107, 108, 120, 121, 122, 126, 127, 128, 129, 130, 131, 132, 133, 134, 138, 139, 141] [(102, 68)] s0 (fM_keepsTold s0) := by
  unfold fM_keepsTold
  exact (fp_lq (fun q2 h_q2 u2 s1 => (fp_ite (fp_lq (fun q96 h_q96 u96 s2 => (fp_ite (fp_lq (fun q142 h_q142 u142 s3 => (fp_ite (fp_lq (fun q173 h_q173 u173 s4 => (fp_ite (fp_lq (fun q203 h_q203 u203 s5 => (fp_ite (fp_lq (fun q233 h_q233 u233 s6 => (fp_ite (fp_lq (fun q279 h_q279 u279 s7 => (fp_ite (fp_lq (fun q309 h_q309 u309 s8 => (fp_ite (fp_lq (fun q338 h_q338 u338 s9 => (fp_ite (fp_lq (fun q368 h_q368 u368 s10 => (fp_ite (fp_lq (fun q398 h_q398 u398 s11 => (fp_ite (fp_sm rfl) (fp_gd (fp_bi (fr_M_keptOf _ _) (by decide) (fun _ h => Or.inl h) (fun r13 s12 => (fp_gd (fp_ptA (by decide) (fun s14 => (h_q398 _ _)))))))))) (fp_gd (fp_bi (fr_M_keptOf _ _) (by decide) (fun _ h => Or.inl h) (fun r16 s15 => (fp_gd (fp_ptA (by decide) (fun s17 => (h_q368 _ _)))))))))) (fp_gd (fp_bi (fr_M_keptOf _ _) (by decide) (fun _ h => Or.inl h) (fun r19 s18 => (fp_gd (fp_ptA (by decide) (fun s20 => (h_q338 _ _)))))))))) (fp_gd (fp_bi (fr_M_keptOf _ _) (by decide) (fun _ h => Or.inl h) (fun r22 s21 => (fp_gd (fp_ptA (by decide) (fun s23 => (h_q309 _ _)))))))))) (fp_gd (fp_bi (fr_M_keptOf _ _) (by decide) (fun _ h => Or.inl h) (fun r25 s24 => (fp_gd (fp_ptA (by decide) (fun s26 => (h_q279 _ _)))))))))) (fp_gd (fp_bi (fr_M_keptOf _ _) (by decide) (fun _ h => Or.inl h) (fun r28 s27 => (fp_gd (fp_ptA (by decide) (fun s29 => (fp_gd (fp_bi (fr_M_keptOf _ _) (by decide) (fun _ h => Or.inl h) (fun r31 s30 => (fp_gd (fp_ptA (by decide) (fun s32 => (h_q233 _ _)))))))))))))))) (fp_gd (fp_bi (fr_M_keptOf _ _) (by decide) (fun _ h => Or.inl h) (fun r34 s33 => (fp_gd (fp_ptA (by decide) (fun s35 => (h_q203 _ _)))))))))) (fp_gd (fp_bi (fr_M_keptOf _ _) (by decide) (fun _ h => Or.inl h) (fun r37 s36 => (fp_gd (fp_ptA (by decide) (fun s38 => (h_q173 _ _)))))))))) (fp_gd (fp_bi (fr_M_keptOf _ _) (by decide) (fun _ h => Or.inl h) (fun r40 s39 => (fp_gd (fp_ptA (by decide) (fun s41 => (h_q142 _ _)))))))))) (fp_gd (fp_bi (fr_M_keptOf _ _) (by decide) (fun _ h => Or.inl h) (fun r43 s42 => (fp_gd (fp_ptA (by decide) (fun s44 => (fp_gd (fp_bi (fr_M_keptOf _ _) (by decide) (fun _ h => Or.inl h) (fun r46 s45 => (fp_gd (fp_ptA (by decide) (fun s47 => (h_q96 _ _)))))))))))))))) (fp_gd (fp_bi (fr_M_keptOf _ _) (by decide) (fun _ h => Or.inl h) (fun r49 s48 => (fp_gd (fp_ptA (by decide) (fun s50 => (fp_gd (fp_bi (fr_M_keptOf _ _) (by decide) (fun _ h => Or.inl h) (fun r52 s51 => (fp_gd (fp_ptA (by decide) (fun s53 => (fp_gd (fp_bi (fr_M_keptOf _ _) (by decide) (fun _ h => Or.inl h) (fun r55 s54 => (fp_gd (fp_ptA (by decide) (fun s56 => (fp_gd (fp_bi (fr_M_keptOf _ _) (by decide) (fun _ h => Or.inl h) (fun r58 s57 => (fp_gd (fp_ptA (by decide) (fun s59 => (fp_gd (fp_bi (fr_M_keptOf _ _) (by decide) (fun _ h => Or.inl h) (fun r61 s60 => (fp_gd (fp_ptA (by decide) (fun s62 => (h_q2 _ _))))))))))))))))))))))))))))))))))
theorem fr_M_image (v1 : Int32) (s0 : Sg) : fP prI [103, 106, 107, 108, 109, 112, 113, 114, 115, 116, 117, 118, 120, 121, 122, 126, 127, 128, 129, 130, 131, 132, 133, 134, 138, 139, 141] [(102, 0), (102, 3), (102, 6), (102, 34), (102, 36), (102, 38), (102, 43), (102, 46), (102, 49), (102, 53), (102, 58), (102, 59), (102, 60), (102, 62), (102, 66), (102, 67), (102, 68)] s0 (fM_image v1 s0) := by
  unfold fM_image
  exact (fp_ptF (by decide) (fun s1 => (fp_j0 (fun s2 => (fp_gb (fp_ptF (by decide) (fun s3 => (fp_gb (fp_ptF (by decide) (fun s4 => (fp_ptF (by decide) (fun s5 => (fp_lq (fun q35 h_q35 u35 s6 => (fp_ite (fp_bv (fr_M_keepsMany _) (by decide) (by decide) (fun s7 => (fp_bv (fr_M_keepsTold _) (by decide) (by decide) (fun s8 => (fp_lq (fun q73 h_q73 u73 s9 => (fp_ite (fp_bv (fr_M_keepsLaw _) (by decide) (by decide) (fun s10 => (fp_ite (fp_ptF (by decide) (fun s11 => (fp_gb (fp_sm rfl)))) (fp_gb (fp_sm rfl))))) (fp_gd (fp_bi (fr_M_keptOf _ _) (by decide) (by decide) (fun r13 s12 => (fp_gd (fp_ptA (by decide) (fun s14 => (h_q73 _ _)))))))))))))) (fp_gd (fp_bi (fr_M_keptOf _ _) (by decide) (by decide) (fun r16 s15 => (fp_gd (fp_ptA (by decide) (fun s17 => (h_q35 _ _))))))))))))))))))) (fun j18 h_j18 => (fp_ite (fp_ite (fp_gb (fp_sm rfl)) (h_j18 _)) (h_j18 _))))))
theorem fr_M_look (v1 : Int32) (s0 : Sg) : fP prI [] [(102, 0)] s0 (fM_look v1 s0) := by
  unfold fM_look
  exact (fp_ptF (by decide) (fun s1 => (fp_ite (fp_sm rfl) (fp_ite (fp_gd (fp_sm rfl)) (fp_ite (fp_gd (fp_sm rfl)) (fp_ite (fp_gd (fp_sm rfl)) (fp_ite (fp_gd (fp_sm rfl)) (fp_ite (fp_bi (fr_M_sunset _) (List.forall_mem_nil _) (List.forall_mem_nil _) (fun r3 s2 => (fp_sm rfl))) (fp_ite (fp_gd (fp_sm rfl)) (fp_ite (fp_gd (fp_sm rfl)) (fp_ite (fp_gd (fp_sm rfl)) (fp_ite (fp_gd (fp_sm rfl)) (fp_ite (fp_gd (fp_sm rfl)) (fp_ite (fp_sm rfl) (fp_ite (fp_sm rfl) (fp_ite (fp_sm rfl) (fp_ite (fp_sm rfl) (fp_sm rfl))))))))))))))))))
theorem fr_J11_isValidCodePoint_9a6ad (v0 : Int32) (s0 : Sg) : fP prI [] [] s0 (fJ11_isValidCodePoint_9a6ad v0 s0) := by
  unfold fJ11_isValidCodePoint_9a6ad
  exact (fp_ite (fp_gb (fp_sm rfl)) (fp_gb (fp_sm rfl)))
theorem fr_J11_highSurrogate_5068e (v0 : Int32) (s0 : Sg) : fP prI [] [] s0 (fJ11_highSurrogate_5068e v0 s0) := by
  unfold fJ11_highSurrogate_5068e
  exact (fp_gch (fp_sm rfl))
theorem fr_J11_lowSurrogate_5068e (v0 : Int32) (s0 : Sg) : fP prI [] [] s0 (fJ11_lowSurrogate_5068e v0 s0) := by
  unfold fJ11_lowSurrogate_5068e
  exact (fp_gch (fp_sm rfl))
theorem fr_J6_numberOfTrailingZeros_0f7a4 (v0 : Int32) (s0 : Sg) : fP prI [] [] s0 (fJ6_numberOfTrailingZeros_0f7a4 v0 s0) := by
  unfold fJ6_numberOfTrailingZeros_0f7a4
  exact (fp_nm (fun x1 => (fp_ite (fp_j2 (fun a34_0 a34_1 s2 => (fp_j2 (fun a49_0 a49_1 s3 => (fp_j2 (fun a62_0 a62_1 s4 => (fp_j2 (fun a74_0 a74_1 s5 => (fp_sm rfl)) (fun j74 h_j74 => (fp_ite (h_j74 _ _ _) (h_j74 _ _ _))))) (fun j62 h_j62 => (fp_ite (h_j62 _ _ _) (h_j62 _ _ _))))) (fun j49 h_j49 => (fp_ite (h_j49 _ _ _) (h_j49 _ _ _))))) (fun j34 h_j34 => (fp_ite (h_j34 _ _ _) (h_j34 _ _ _)))) (fp_sm rfl))))
theorem fr_J6_bitCount_0f7a4 (v0 : Int32) (s0 : Sg) : fP prI [] [] s0 (fJ6_bitCount_0f7a4 v0 s0) := by
  unfold fJ6_bitCount_0f7a4
  exact (fp_nm (fun x1 => (fp_nm (fun x2 => (fp_nm (fun x3 => (fp_nm (fun x4 => (fp_sm rfl)))))))))
theorem fr_J9_floorMod_7cf53 (v0 : Int32) (v1 : Int32) (s0 : Sg) : fP prI [] [] s0 (fJ9_floorMod_7cf53 v0 v1 s0) := by
  unfold fJ9_floorMod_7cf53
  exact (fp_gz (fp_ite (fp_sm rfl) (fp_ite (fp_sm rfl) (fp_sm rfl))))
theorem fr_J9_max_7cf53 (v0 : Int32) (v1 : Int32) (s0 : Sg) : fP prI [] [] s0 (fJ9_max_7cf53 v0 v1 s0) := by
  unfold fJ9_max_7cf53
  exact (fp_ite (fp_sm rfl) (fp_sm rfl))
theorem fr_J9_min_7cf53 (v0 : Int32) (v1 : Int32) (s0 : Sg) : fP prI [] [] s0 (fJ9_min_7cf53 v0 v1 s0) := by
  unfold fJ9_min_7cf53
  exact (fp_ite (fp_sm rfl) (fp_sm rfl))
theorem fr_J0_coder_7d493 (o0 : Nat) (s0 : Sg) : fP prI [] [] s0 (fJ0_coder_7d493 o0 s0) := by
  unfold fJ0_coder_7d493
  exact (fp_ite (fp_gby (fp_sm rfl)) (fp_gby (fp_sm rfl)))
theorem fr_J0_isLatin1_aae02 (o0 : Nat) (s0 : Sg) : fP prI [] [] s0 (fJ0_isLatin1_aae02 o0 s0) := by
  unfold fJ0_isLatin1_aae02
  exact (fp_ite (fp_gb (fp_sm rfl)) (fp_ite (fp_gb (fp_sm rfl)) (fp_gb (fp_sm rfl))))
theorem fr_J1_canEncode_9a6ad (v0 : Int32) (s0 : Sg) : fP prI [] [] s0 (fJ1_canEncode_9a6ad v0 s0) := by
  unfold fJ1_canEncode_9a6ad
  exact (fp_ite (fp_gb (fp_sm rfl)) (fp_ite (fp_gb (fp_sm rfl)) (fp_gb (fp_sm rfl))))
theorem fr_J1_indexOfChar_4cfef (o0 : Nat) (v1 : Int32) (v2 : Int32) (v3 : Int32) (s0 : Sg) : fP prI [] [] s0 (fJ1_indexOfChar_4cfef o0 v1 v2 v3 s0) := by
  unfold fJ1_indexOfChar_4cfef
  exact (fp_lq (fun q7 h_q7 u7 s1 => (fp_ite (fp_sm rfl) (fp_gd (fp_ite (fp_sm rfl) (h_q7 _ _))))))
theorem fr_J2_length_9d52b (o0 : Nat) (s0 : Sg) : fP prI [] [] s0 (fJ2_length_9d52b o0 s0) := by
  unfold fJ2_length_9d52b
  exact (fp_sm rfl)
theorem fr_J2_indexOf_4cfef (o0 : Nat) (v1 : Int32) (v2 : Int32) (v3 : Int32) (s0 : Sg) : fP prI [] [] s0 (fJ2_indexOf_4cfef o0 v1 v2 v3 s0) := by
  unfold fJ2_indexOf_4cfef
  exact (fp_bi (fr_J9_max_7cf53 _ _ _) (List.forall_mem_nil _) (List.forall_mem_nil _) (fun r2 s1 => (fp_bi (fr_J9_min_7cf53 _ _ _) (List.forall_mem_nil _) (List.forall_mem_nil _) (fun r4 s3 => (fp_ite (fp_ite fp_no fp_no) (fp_sm rfl))))))
theorem fr_J2_indexOfChar_4cfef (o0 : Nat) (v1 : Int32) (v2 : Int32) (v3 : Int32) (s0 : Sg) : fP prI [] [] s0 (fJ2_indexOfChar_4cfef o0 v1 v2 v3 s0) := by
  unfold fJ2_indexOfChar_4cfef
  exact fp_no
theorem fr_J2_indexOfCharUnsafe_4cfef (o0 : Nat) (v1 : Int32) (v2 : Int32) (v3 : Int32) (s0 : Sg) : fP prI [] [] s0 (fJ2_indexOfCharUnsafe_4cfef o0 v1 v2 v3 s0) := by
  unfold fJ2_indexOfCharUnsafe_4cfef
  exact (fp_lq (fun q3 h_q3 u3 s1 => (fp_ite (fp_sm rfl) fp_no)))
theorem fr_J2_indexOfSupplementary_4cfef (o0 : Nat) (v1 : Int32) (v2 : Int32) (v3 : Int32) (s0 : Sg) : fP prI [] [] s0 (fJ2_indexOfSupplementary_4cfef o0 v1 v2 v3 s0) := by
  unfold fJ2_indexOfSupplementary_4cfef
  exact (fp_bi (fr_J11_isValidCodePoint_9a6ad _ _) (List.forall_mem_nil _) (List.forall_mem_nil _) (fun r2 s1 => (fp_ite (fp_sm rfl) (fp_bi (fr_J11_highSurrogate_5068e _ _) (List.forall_mem_nil _) (List.forall_mem_nil _) (fun r4 s3 => (fp_bi (fr_J11_lowSurrogate_5068e _ _) (List.forall_mem_nil _) (List.forall_mem_nil _) (fun r6 s5 => fp_no)))))))
theorem fr_J2_charAt_3b067 (o0 : Nat) (v1 : Int32) (s0 : Sg) : fP prI [] [] s0 (fJ2_charAt_3b067 o0 v1 s0) := by
  unfold fJ2_charAt_3b067
  exact fp_no
theorem fr_J7_fill_53178 (o0 : Nat) (v1 : Int32) (s0 : Sg) : fP prV [o0] [] s0 (fJ7_fill_53178 o0 v1 s0) := by
  unfold fJ7_fill_53178
  exact (fp_lq (fun q5 h_q5 u5 s1 => (fp_ite (fp_sm rfl) (fp_gd (fp_ptA (by simp) (fun s2 => (h_q5 _ _)))))))
theorem fr_J3_checkIndex_8e157 (v0 : Int32) (v1 : Int32) (s0 : Sg) : fP prI [] [] s0 (fJ3_checkIndex_8e157 v0 v1 s0) := by
  unfold fJ3_checkIndex_8e157
  exact (fp_ite fp_no (fp_ite (fp_sm rfl) fp_no))
theorem fr_J3_checkFromToIndex_8c36e (v0 : Int32) (v1 : Int32) (v2 : Int32) (s0 : Sg) : fP prI [] [] s0 (fJ3_checkFromToIndex_8c36e v0 v1 v2 s0) := by
  unfold fJ3_checkFromToIndex_8c36e
  exact fp_no
theorem fr_La_clear (o0 : Nat) (s0 : Sg) : fP prV [] [((hz_rf o0 0), 3), (o0, 3)] s0 (fLa_clear o0 s0) := by
  unfold fLa_clear
  exact (fp_bi (fr_Ta_empty _ _) (List.forall_mem_nil _) (by first | decide | simp [hz_r20]) (fun r2 s1 => (fp_ptF (by simp) (fun s3 => (fp_sm rfl)))))
theorem fr_La_untold (v0 : Int32) (o1 : Nat) (v2 : Int32) (s0 : Sg) : fP prI [] [] s0 (fLa_untold v0 o1 v2 s0) := by
  unfold fLa_untold
  exact (fp_ite (fp_bi (fr_Sc_tell _ _ _ _) (List.forall_mem_nil _) (List.forall_mem_nil _) (fun r6 s5 => (fp_sm rfl))) (fp_ite (fp_sm rfl) (fp_bi (fr_Sc_tell _ _ _ _) (List.forall_mem_nil _) (List.forall_mem_nil _) (fun r2 s1 => (fp_bi (fr_Sc_tell _ _ _ _) (List.forall_mem_nil _) (List.forall_mem_nil _) (fun r4 s3 => (fp_sm rfl)))))))
theorem fr_Mu_matches (v1 : Int32) (v2 : Int32) (s0 : Sg) : fP prI [] [] s0 (fMu_matches v1 v2 s0) := by
  unfold fMu_matches
  exact (fp_bi (fr_Te_answered _ _ _) (List.forall_mem_nil _) (List.forall_mem_nil _) (fun r2 s1 => (fp_bi (fr_J6_bitCount_0f7a4 _ _) (List.forall_mem_nil _) (List.forall_mem_nil _) (fun r4 s3 => (fp_sm rfl)))))
theorem fr_Mu_coverRestB (rec : Int32 → Int32 → Int32 → Sg → Option (Sg)) (hrec : ∀ (v1 : Int32) (v2 : Int32) (v3 : Int32) (s0 : Sg), fP prV [] [(66, 7), (66, 8)] s0 (rec v1 v2 v3 s0)) (v1 : Int32) (v2 : Int32) (v3 : Int32) (s0 : Sg) : fP prV [] [(66, 7), (66, 8)] s0 (fMu_coverRestB rec v1 v2 v3 s0) := by
  unfold fMu_coverRestB
  exact (fp_ite (fp_bv (fr_Mu_takeCover _ _ _) (List.forall_mem_nil _) (fun _ h => Or.inl h) (fun s7 => (fp_sm rfl))) (fp_ite (fp_sm rfl) (fp_j0 (fun s1 => (fp_lq (fun q43 h_q43 u43 s2 => (fp_ite (fp_sm rfl) (fp_bi (fr_Te_answered _ _ _) (List.forall_mem_nil _) (List.forall_mem_nil _) (fun r4 s3 => (fp_j0 (fun s5 => (h_q43 _ _)) (fun j88 h_j88 => (fp_ite (h_j88 _) (fp_bv (hrec _ _ _ _) (fun _ h => h) (fun _ h => Or.inl h) (fun s6 => (h_j88 _)))))))))))) (fun j34 h_j34 => (fp_ite (h_j34 _) (fp_ite (h_j34 _) (fp_sm rfl)))))))
theorem fr_Mu_coverRest : ∀ (n : Nat) (v1 : Int32) (v2 : Int32) (v3 : Int32) (s0 : Sg), fP prV [] [(66, 7), (66, 8)] s0 (fMu_coverRest n v1 v2 v3 s0)
  | 0, _, _, _, _ => fp_no
  | n + 1, v1, v2, v3, s0 => fr_Mu_coverRestB (fMu_coverRest n) (fr_Mu_coverRest n) v1 v2 v3 s0
theorem fr_Mu_farOf (v1 : Int32) (s0 : Sg) : fP prI [] [] s0 (fMu_farOf v1 s0) := by
  unfold fMu_farOf
  exact (fp_bi (fr_H_within _ _ _ _) (List.forall_mem_nil _) (List.forall_mem_nil _) (fun r2 s1 => (fp_ite (fp_sm rfl) (fp_gd (fp_sm rfl)))))
theorem fr_Mu_reach (v1 : Int32) (v2 : Int32) (s0 : Sg) : fP prV [67] [] s0 (fMu_reach v1 v2 s0) := by
  unfold fMu_reach
  exact (fp_bi (fr_H_within _ _ _ _) (List.forall_mem_nil _) (List.forall_mem_nil _) (fun r2 s1 => (fp_ite (fp_sm rfl) (fp_gd (fp_ite (fp_gd (fp_ptA (by decide) (fun s3 => (fp_sm rfl)))) (fp_sm rfl))))))
theorem fr_Mu_follow (v1 : Int32) (s0 : Sg) : fP prI [] [] s0 (fMu_follow v1 s0) := by
  unfold fMu_follow
  exact (fp_bi (fr_J9_max_7cf53 _ _ _) (List.forall_mem_nil _) (List.forall_mem_nil _) (fun r2 s1 => (fp_bi (fr_J9_floorMod_7cf53 _ _ _) (List.forall_mem_nil _) (List.forall_mem_nil _) (fun r4 s3 => (fp_sm rfl)))))
theorem fr_Mu_first (v1 : Int32) (s0 : Sg) : fP prI [] [] s0 (fMu_first v1 s0) := by
  unfold fMu_first
  exact (fp_bi (fr_J9_max_7cf53 _ _ _) (List.forall_mem_nil _) (List.forall_mem_nil _) (fun r2 s1 => (fp_bi (fr_J9_floorMod_7cf53 _ _ _) (List.forall_mem_nil _) (List.forall_mem_nil _) (fun r4 s3 => (fp_sm rfl)))))
theorem fr_Mu_roundOf (v1 : Int32) (s0 : Sg) : fP prI [] [] s0 (fMu_roundOf v1 s0) := by
  unfold fMu_roundOf
  exact (fp_bi (fr_Mu_first _ _) (List.forall_mem_nil _) (List.forall_mem_nil _) (fun r2 s1 => (fp_lq (fun q8 h_q8 u8 s3 => (fp_ite (fp_bi (fr_Mu_follow _ _) (List.forall_mem_nil _) (List.forall_mem_nil _) (fun r5 s4 => (fp_lq (fun q40 h_q40 u40 s6 => (fp_ite (fp_sm rfl) (fp_ite (fp_sm rfl) (fp_bi (fr_Mu_follow _ _) (List.forall_mem_nil _) (List.forall_mem_nil _) (fun r8 s7 => (h_q40 _ _))))))))) (fp_bi (fr_Mu_follow _ _) (List.forall_mem_nil _) (List.forall_mem_nil _) (fun r10 s9 => (h_q8 _ _))))))))
theorem fr_Mu_aheadOfRound (v1 : Int32) (v2 : Int32) (s0 : Sg) : fP prI [] [] s0 (fMu_aheadOfRound v1 v2 s0) := by
  unfold fMu_aheadOfRound
  exact (fp_bi (fr_Mu_first _ _) (List.forall_mem_nil _) (List.forall_mem_nil _) (fun r2 s1 => (fp_lq (fun q12 h_q12 u12 s3 => (fp_ite (fp_lq (fun q35 h_q35 u35 s4 => (fp_ite (fp_sm rfl) (fp_ite (fp_sm rfl) (fp_bi (fr_Mu_follow _ _) (List.forall_mem_nil _) (List.forall_mem_nil _) (fun r6 s5 => (fp_bi (fr_Mu_follow _ _) (List.forall_mem_nil _) (List.forall_mem_nil _) (fun r8 s7 => (h_q35 _ _))))))))) (fp_bi (fr_Mu_follow _ _) (List.forall_mem_nil _) (List.forall_mem_nil _) (fun r10 s9 => (h_q12 _ _))))))))
theorem fr_Mu_waysToSound (v0 : Int32) (v1 : Int32) (s0 : Sg) : fP prI [] [] s0 (fMu_waysToSound v0 v1 s0) := by
  unfold fMu_waysToSound
  exact (fp_lq (fun q4 h_q4 u4 s1 => (fp_ite (fp_sm rfl) (fp_ite (fp_sm rfl) (fp_bi (fr_Mu_choices _ _ _) (List.forall_mem_nil _) (List.forall_mem_nil _) (fun r3 s2 => (fp_bi (fr_Mu_choices _ _ _) (List.forall_mem_nil _) (List.forall_mem_nil _) (fun r5 s4 => (h_q4 _ _)))))))))
theorem fr_Mu_fillNim (s0 : Sg) : fP prV [70] [] s0 (fMu_fillNim s0) := by
  unfold fMu_fillNim
  exact (fp_lq (fun q2 h_q2 u2 s1 => (fp_ite (fp_sm rfl) (fp_lq (fun q12 h_q12 u12 s2 => (fp_ite (fp_bi (fr_J6_numberOfTrailingZeros_0f7a4 _ _) (List.forall_mem_nil _) (List.forall_mem_nil _) (fun r4 s3 => (fp_gd (fp_ptA (by decide) (fun s5 => (h_q2 _ _)))))) (fp_gd (fp_nm (fun x6 => (h_q12 _ _))))))))))
theorem fr_Mu_nimOf (v1 : Int32) (s0 : Sg) : fP prI [] [] s0 (fMu_nimOf v1 s0) := by
  unfold fMu_nimOf
  exact (fp_bi (fr_H_within _ _ _ _) (List.forall_mem_nil _) (List.forall_mem_nil _) (fun r2 s1 => (fp_ite (fp_sm rfl) (fp_gd (fp_sm rfl)))))
theorem fr_Pa_newest (s0 : Sg) : fP prR [] [] s0 (fPa_newest s0) := by
  unfold fPa_newest
  exact (fp_bi (fr_J9_floorMod_7cf53 _ _ _) (List.forall_mem_nil _) (List.forall_mem_nil _) (fun r2 s1 => (fp_gd (fp_sm rfl))))
theorem fr_Re_startsLine (v1 : Int32) (v2 : Int32) (s0 : Sg) : fP prI [] [(30, 3), (30, 4)] s0 (fRe_startsLine v1 v2 s0) := by
  unfold fRe_startsLine
  exact (fp_j1 (fun b13_0 s1 => (fp_bi (fr_H_within _ _ _ _) (List.forall_mem_nil _) (List.forall_mem_nil _) (fun r3 s2 => (fp_ite (fp_bi (fr_Re_wrong _ _) (List.forall_mem_nil _) (fun _ h => Or.inl h) (fun r8 s7 => (fp_gb (fp_sm rfl)))) (fp_j0 (fun s4 => (fp_gb (fp_sm rfl))) (fun j51 h_j51 => (fp_ite (h_j51 _) (fp_bi (fr_Re_wrong _ _) (List.forall_mem_nil _) (fun _ h => Or.inl h) (fun r6 s5 => (fp_ite (fp_gb (fp_sm rfl)) (h_j51 _))))))))))) (fun j13 h_j13 => (fp_ite (h_j13 _ _) (h_j13 _ _))))
theorem fr_Re_skip (v1 : Int32) (s0 : Sg) : fP prI [] [(30, 3), (30, 4), (31, 6), (31, 7), (31, 8), (31, 9)] s0 (fRe_skip v1 s0) := by
  unfold fRe_skip
  exact (fp_ite (fp_bv (fr_To_advance _) (List.forall_mem_nil _) (by decide) (fun s1 => (fp_gb (fp_sm rfl)))) (fp_bi (fr_Re_wrong _ _) (List.forall_mem_nil _) (by decide) (fun r3 s2 => (fp_gb (fp_sm rfl)))))
theorem fr_Re_number (v1 : Int32) (v2 : Int32) (s0 : Sg) : fP prI [] [(30, 3), (30, 4), (30, 5), (31, 6), (31, 7), (31, 8), (31, 9)] s0 (fRe_number v1 v2 s0) := by
  unfold fRe_number
  exact (fp_ite (fp_bi (fr_H_within _ _ _ _) (List.forall_mem_nil _) (List.forall_mem_nil _) (fun r2 s1 => (fp_ite (fp_bi (fr_Re_wrong _ _) (List.forall_mem_nil _) (by decide) (fun r6 s5 => (fp_gb (fp_sm rfl)))) (fp_ptF (by decide) (fun s3 => (fp_bv (fr_To_advance _) (List.forall_mem_nil _) (by decide) (fun s4 => (fp_gb (fp_sm rfl))))))))) (fp_bi (fr_Re_wrong _ _) (List.forall_mem_nil _) (by decide) (fun r8 s7 => (fp_gb (fp_sm rfl)))))
theorem fr_Re_keyNumber (v1 : Int32) (v2 : Int32) (v3 : Int32) (s0 : Sg) : fP prI [] [(30, 3), (30, 4), (30, 5), (31, 6), (31, 7), (31, 8), (31, 9)] s0 (fRe_keyNumber v1 v2 v3 s0) := by
  unfold fRe_keyNumber
  exact (fp_bi (fr_Re_skip _ _) (List.forall_mem_nil _) (by decide) (fun r2 s1 => (fp_ite (fp_gb (fp_sm rfl)) (fp_bi (fr_Re_number _ _ _) (List.forall_mem_nil _) (fun _ h => Or.inl h) (fun r4 s3 => (fp_ite (fp_gb (fp_sm rfl)) (fp_gb (fp_sm rfl))))))))
theorem fr_Re_await (v1 : Int32) (s0 : Sg) : fP prV [47] [(30, 6), (31, 6), (31, 7), (31, 8), (31, 9)] s0 (fRe_await v1 s0) := by
  unfold fRe_await
  exact (fp_j0 (fun s1 => (fp_bv (fr_To_advance _) (List.forall_mem_nil _) (by decide) (fun s2 => (fp_sm rfl)))) (fun j36 h_j36 => (fp_ite (h_j36 _) (fp_ite (h_j36 _) (fp_gd (fp_ptA (by decide) (fun s3 => (fp_ptF (by decide) (fun s4 => (h_j36 _))))))))))
theorem fr_Re_release (v1 : Int32) (s0 : Sg) : fP prV [40] [(30, 6), (30, 7), (37, 3)] s0 (fRe_release v1 s0) := by
  unfold fRe_release
  exact (fp_bi (fr_Re_waitingLast _) (List.forall_mem_nil _) (List.forall_mem_nil _) (fun r2 s1 => (fp_lq (fun q7 h_q7 u7 s3 => (fp_ite (fp_sm rfl) (fp_bi (fr_Re_closeness _ _) (List.forall_mem_nil _) (List.forall_mem_nil _) (fun r5 s4 => (fp_bi (fr_Re_closeness _ _) (List.forall_mem_nil _) (List.forall_mem_nil _) (fun r7 s6 => (fp_ite (fp_sm rfl) (fp_j0 (fun s8 => (fp_ptF (by decide) (fun s9 => (fp_bv (fr_La_addCode _ _ _) (by first | decide | simp [hz_r20]) (by first | decide | simp [hz_r20]) (fun s10 => (fp_bi (fr_Re_waitingLast _) (List.forall_mem_nil _) (List.forall_mem_nil _) (fun r12 s11 => (h_q7 _ _)))))))) (fun j41 h_j41 => (fp_ite (fp_ptF (by decide) (fun s13 => (h_j41 _))) (h_j41 _))))))))))))))
theorem fr_Re_readUnit (s0 : Sg) : fP prI [40] [(30, 3), (30, 4), (31, 6), (31, 7), (31, 8), (31, 9), (37, 3)] s0 (fRe_readUnit s0) := by
  unfold fRe_readUnit
  exact (fp_j0 (fun s1 => (fp_bv (fr_To_advance _) (List.forall_mem_nil _) (by decide) (fun s2 => (fp_gb (fp_sm rfl))))) (fun j84 h_j84 => (fp_ite (fp_bv (fr_La_addCode _ _ _) (by first | decide | simp [hz_r20]) (by first | decide | simp [hz_r20]) (fun s8 => (h_j84 _))) (fp_bi (fr_H_within _ _ _ _) (List.forall_mem_nil _) (List.forall_mem_nil _) (fun r4 s3 => (fp_ite (fp_bi (fr_Re_wrong _ _) (List.forall_mem_nil _) (by decide) (fun r6 s5 => (fp_gb (fp_sm rfl)))) (fp_bv (fr_La_addCode _ _ _) (by first | decide | simp [hz_r20]) (by first | decide | simp [hz_r20]) (fun s7 => (h_j84 _)))))))))
theorem fr_Sc_changeBreath (o0 : Nat) (v1 : Int32) (v2 : Int32) (s0 : Sg) : fP prV [(hz_rf o0 0)] [] s0 (fSc_changeBreath o0 v1 v2 s0) := by
  unfold fSc_changeBreath
  exact (fp_bi (fr_Sc_tell _ _ _ _) (List.forall_mem_nil _) (List.forall_mem_nil _) (fun r2 s1 => (fp_bi (fr_J9_min_7cf53 _ _ _) (List.forall_mem_nil _) (List.forall_mem_nil _) (fun r4 s3 => (fp_bi (fr_J9_max_7cf53 _ _ _) (List.forall_mem_nil _) (List.forall_mem_nil _) (fun r6 s5 => (fp_bv (fr_Sc_put _ _ _ _ _) (by first | decide | simp [hz_r20]) (List.forall_mem_nil _) (fun s7 => (fp_sm rfl)))))))))
theorem fr_Sc_meaning (o0 : Nat) (v1 : Int32) (v2 : Int32) (s0 : Sg) : fP prI [] [] s0 (fSc_meaning o0 v1 v2 s0) := by
  unfold fSc_meaning
  exact (fp_ite (fp_bi (fr_Sc_tell _ _ _ _) (List.forall_mem_nil _) (List.forall_mem_nil _) (fun r12 s11 => (fp_bi (fr_J9_max_7cf53 _ _ _) (List.forall_mem_nil _) (List.forall_mem_nil _) (fun r14 s13 => (fp_sm rfl))))) (fp_ite (fp_bi (fr_J9_max_7cf53 _ _ _) (List.forall_mem_nil _) (List.forall_mem_nil _) (fun r10 s9 => (fp_sm rfl))) (fp_ite (fp_bi (fr_Sc_tell _ _ _ _) (List.forall_mem_nil _) (List.forall_mem_nil _) (fun r4 s3 => (fp_ite (fp_bi (fr_Sc_manyUp _ _) (List.forall_mem_nil _) (List.forall_mem_nil _) (fun r6 s5 => (fp_sm rfl))) (fp_bi (fr_Sc_manyUp _ _) (List.forall_mem_nil _) (List.forall_mem_nil _) (fun r8 s7 => (fp_sm rfl)))))) (fp_ite (fp_sm rfl) (fp_bi (fr_Sc_tell _ _ _ _) (List.forall_mem_nil _) (List.forall_mem_nil _) (fun r2 s1 => (fp_sm rfl)))))))
theorem fr_Ta_tell (o0 : Nat) (v1 : Int32) (v2 : Int32) (s0 : Sg) : fP prI [] [] s0 (fTa_tell o0 v1 v2 s0) := by
  unfold fTa_tell
  exact (fp_bi (fr_Ta_holds _ _ _ _) (List.forall_mem_nil _) (List.forall_mem_nil _) (fun r2 s1 => (fp_ite (fp_sm rfl) (fp_gd (fp_sm rfl)))))
theorem fr_Ta_put (o0 : Nat) (v1 : Int32) (v2 : Int32) (v3 : Int32) (s0 : Sg) : fP prV [(hz_rf o0 2)] [] s0 (fTa_put o0 v1 v2 v3 s0) := by
  unfold fTa_put
  exact (fp_bi (fr_Ta_holds _ _ _ _) (List.forall_mem_nil _) (List.forall_mem_nil _) (fun r2 s1 => (fp_ite (fp_sm rfl) (fp_gd (fp_ptA (by simp) (fun s3 => (fp_sm rfl)))))))
theorem fr_Ta_add (o0 : Nat) (v1 : Int32) (v2 : Int32) (v3 : Int32) (v4 : Int32) (v5 : Int32) (s0 : Sg) : fP prI [(hz_rf o0 2)] [(o0, 3)] s0 (fTa_add o0 v1 v2 v3 v4 v5 s0) := by
  unfold fTa_add
  exact (fp_ite (fp_bv (fr_Ta_put _ _ _ _ _) (by first | decide | simp [hz_r20]) (List.forall_mem_nil _) (fun s1 => (fp_bv (fr_Ta_put _ _ _ _ _) (by first | decide | simp [hz_r20]) (List.forall_mem_nil _) (fun s2 => (fp_bv (fr_Ta_put _ _ _ _ _) (by first | decide | simp [hz_r20]) (List.forall_mem_nil _) (fun s3 => (fp_bv (fr_Ta_put _ _ _ _ _) (by first | decide | simp [hz_r20]) (List.forall_mem_nil _) (fun s4 => (fp_bv (fr_Ta_put _ _ _ _ _) (by first | decide | simp [hz_r20]) (List.forall_mem_nil _) (fun s5 => (fp_ptF (by simp) (fun s6 => (fp_sm rfl))))))))))))) (fp_sm rfl))
theorem fr_Ta_become (o0 : Nat) (o1 : Nat) (s0 : Sg) : fP prV [(hz_rf o0 2)] [(o0, 3)] s0 (fTa_become o0 o1 s0) := by
  unfold fTa_become
  exact (fp_ptF (by simp) (fun s1 => (fp_bi (fr_J9_min_7cf53 _ _ _) (List.forall_mem_nil _) (List.forall_mem_nil _) (fun r3 s2 => (fp_bv fp_cpy (by first | decide | simp [hz_r20]) (List.forall_mem_nil _) (fun s4 => (fp_sm rfl)))))))
theorem fr_Te_clear (o0 : Nat) (v1 : Int32) (s0 : Sg) : fP prV [(hz_rf o0 3)] [((hz_rf (hz_rf o0 0) 0), 3), ((hz_rf o0 0), 3), ((hz_rf o0 1), 3), ((hz_rf o0 2), 3), (o0, 4)] s0 (fTe_clear o0 v1 s0) := by
  unfold fTe_clear
  exact (fp_ite (fp_bv (fr_La_clear _ _) (List.forall_mem_nil _) (by first | decide | simp [hz_r20]) (fun s7 => (fp_sm rfl))) (fp_ite (fp_bi (fr_Ta_empty _ _) (List.forall_mem_nil _) (by first | decide | simp [hz_r20]) (fun r6 s5 => (fp_sm rfl))) (fp_ite (fp_bi (fr_Ta_empty _ _) (List.forall_mem_nil _) (by first | decide | simp [hz_r20]) (fun r4 s3 => (fp_sm rfl))) (fp_ite (fp_bv (fr_J7_fill_53178 _ _ _) (by first | decide | simp [hz_r20]) (List.forall_mem_nil _) (fun s1 => (fp_ptF (by simp) (fun s2 => (fp_sm rfl))))) (fp_sm rfl)))))
theorem fr_Te_suits (o0 : Nat) (v1 : Int32) (v2 : Int32) (s0 : Sg) : fP prI [] [] s0 (fTe_suits o0 v1 v2 s0) := by
  unfold fTe_suits
  exact (fp_bi (fr_H_isQuestion _ _) (List.forall_mem_nil _) (List.forall_mem_nil _) (fun r2 s1 => (fp_ite (fp_gb (fp_sm rfl)) (fp_bi (fr_Te_answered _ _ _) (List.forall_mem_nil _) (List.forall_mem_nil _) (fun r4 s3 => (fp_ite (fp_gb (fp_sm rfl)) (fp_gb (fp_sm rfl))))))))
theorem fr_Te_addSuit (o0 : Nat) (v1 : Int32) (v2 : Int32) (s0 : Sg) : fP prV [(hz_rf o0 3)] [] s0 (fTe_addSuit o0 v1 v2 s0) := by
  unfold fTe_addSuit
  exact (fp_bi (fr_H_isWord _ _) (List.forall_mem_nil _) (List.forall_mem_nil _) (fun r2 s1 => (fp_ite (fp_sm rfl) (fp_bi (fr_H_isQuestion _ _) (List.forall_mem_nil _) (List.forall_mem_nil _) (fun r4 s3 => (fp_ite (fp_sm rfl) (fp_gd (fp_gd (fp_ptA (by simp) (fun s5 => (fp_sm rfl)))))))))))
theorem fr_To_addNumber (v1 : Int32) (s0 : Sg) : fP prV [32] [(31, 4)] s0 (fTo_addNumber v1 s0) := by
  unfold fTo_addNumber
  exact (fp_bv (fr_To_addByte _ _) (fun _ h => h) (fun _ h => Or.inl h) (fun s1 => (fp_bv (fr_To_addByte _ _) (fun _ h => h) (fun _ h => Or.inl h) (fun s2 => (fp_bv (fr_To_addByte _ _) (fun _ h => h) (fun _ h => Or.inl h) (fun s3 => (fp_bv (fr_To_addByte _ _) (fun _ h => h) (fun _ h => Or.inl h) (fun s4 => (fp_sm rfl)))))))))
theorem fr_To_numberAt (v1 : Int32) (v2 : Int32) (s0 : Sg) : fP prI [] [] s0 (fTo_numberAt v1 v2 s0) := by
  unfold fTo_numberAt
  exact (fp_lq (fun q5 h_q5 u5 s1 => (fp_ite (fp_sm rfl) (fp_ite (fp_sm rfl) (fp_bi (fr_To_signAt _ _) (List.forall_mem_nil _) (List.forall_mem_nil _) (fun r3 s2 => (fp_nm (fun x4 => (h_q5 _ _)))))))))
theorem fr_To_isLetter (v0 : Int32) (s0 : Sg) : fP prI [] [] s0 (fTo_isLetter v0 s0) := by
  unfold fTo_isLetter
  exact (fp_bi (fr_H_within _ _ _ _) (List.forall_mem_nil _) (List.forall_mem_nil _) (fun r2 s1 => (fp_j0 (fun s3 => (fp_gb (fp_sm rfl))) (fun j22 h_j22 => (fp_ite (fp_bi (fr_H_within _ _ _ _) (List.forall_mem_nil _) (List.forall_mem_nil _) (fun r5 s4 => (fp_ite (fp_gb (fp_sm rfl)) (h_j22 _)))) (h_j22 _))))))
theorem fr_To_isDigit (v0 : Int32) (s0 : Sg) : fP prI [] [] s0 (fTo_isDigit v0 s0) := by
  unfold fTo_isDigit
  exact (fp_bi (fr_H_within _ _ _ _) (List.forall_mem_nil _) (List.forall_mem_nil _) (fun r2 s1 => (fp_gb (fp_sm rfl))))
theorem fr_Tl_become (o0 : Nat) (o1 : Nat) (s0 : Sg) : fP prV [(hz_rf (hz_rf o0 0) 2), (hz_rf (hz_rf o0 1) 2), (hz_rf (hz_rf o0 2) 2), (hz_rf (hz_rf o0 3) 2), (hz_rf (hz_rf o0 4) 2), (hz_rf (hz_rf o0 5) 2), (hz_rf (hz_rf o0 6) 2)] [((hz_rf o0 0), 3), ((hz_rf o0 1), 3), ((hz_rf o0 2), 3), ((hz_rf o0 3), 3), ((hz_rf o0 4), 3), ((hz_rf o0 5), 3), ((hz_rf o0 6), 3), (o0, 7), (o0, 8), (o0, 9)] s0 (fTl_become o0 o1 s0) := by
  unfold fTl_become
  exact (fp_bv (fr_Ta_become _ _ _) (by first | decide | simp [hz_r20]) (by first | decide | simp [hz_r20]) (fun s1 => (fp_bv (fr_Ta_become _ _ _) (by first | decide | simp [hz_r20]) (by first | decide | simp [hz_r20]) (fun s2 => (fp_bv (fr_Ta_become _ _ _) (by first | decide | simp [hz_r20]) (by first | decide | simp [hz_r20]) (fun s3 => (fp_bv (fr_Ta_become _ _ _) (by first | decide | simp [hz_r20]) (by first | decide | simp [hz_r20]) (fun s4 => (fp_bv (fr_Ta_become _ _ _) (by first | decide | simp [hz_r20]) (by first | decide | simp [hz_r20]) (fun s5 => (fp_bv (fr_Ta_become _ _ _) (by first | decide | simp [hz_r20]) (by first | decide | simp [hz_r20]) (fun s6 => (fp_bv (fr_Ta_become _ _ _) (by first | decide | simp [hz_r20]) (by first | decide | simp [hz_r20]) (fun s7 => (fp_ptF (by simp) (fun s8 => (fp_ptF (by simp) (fun s9 => (fp_ptF (by simp) (fun s10 => (fp_sm rfl)))))))))))))))))))))
theorem fr_H_feed (v1 : Int32) (v2 : Int32) (v3 : Int32) (v4 : Int32) (v5 : Int32) (s0 : Sg) : fP prI [32] [(31, 4)] s0 (fH_feed v1 v2 v3 v4 v5 s0) := by
  unfold fH_feed
  exact (fp_ite (fp_bv (fr_To_addNumber _ _) (fun _ h => h) (fun _ h => Or.inl h) (fun s1 => (fp_bv (fr_To_addNumber _ _) (fun _ h => h) (fun _ h => Or.inl h) (fun s2 => (fp_bv (fr_To_addNumber _ _) (fun _ h => h) (fun _ h => Or.inl h) (fun s3 => (fp_bv (fr_To_addNumber _ _) (fun _ h => h) (fun _ h => Or.inl h) (fun s4 => (fp_bv (fr_To_addNumber _ _) (fun _ h => h) (fun _ h => Or.inl h) (fun s5 => (fp_sm rfl))))))))))) (fp_sm rfl))
theorem fr_H_book (v1 : Int32) (v2 : Int32) (s0 : Sg) : fP prI [] [] s0 (fH_book v1 v2 s0) := by
  unfold fH_book
  exact (fp_bi (fr_H_within _ _ _ _) (List.forall_mem_nil _) (List.forall_mem_nil _) (fun r2 s1 => (fp_j1 (fun b31_0 s3 => (fp_ite (fp_sm rfl) (fp_bi (fr_Ta_tell _ _ _ _) (List.forall_mem_nil _) (List.forall_mem_nil _) (fun r5 s4 => (fp_sm rfl))))) (fun j31 h_j31 => (fp_j0 (fun s6 => (h_j31 _ _)) (fun j30 h_j30 => (fp_ite (h_j30 _) (fp_bi (fr_H_within _ _ _ _) (List.forall_mem_nil _) (List.forall_mem_nil _) (fun r8 s7 => (fp_ite (h_j30 _) (h_j31 _ _)))))))))))
theorem fr_H_answer (v1 : Int32) (v2 : Int32) (s0 : Sg) : fP prI [50] [(49, 3)] s0 (fH_answer v1 v2 s0) := by
  unfold fH_answer
  exact (fp_ite (fp_bi (fr_Ta_empty _ _) (List.forall_mem_nil _) (by first | decide | simp [hz_r20]) (fun r7 s6 => (fp_sm rfl))) (fp_bi (fr_H_isQuestion _ _) (List.forall_mem_nil _) (List.forall_mem_nil _) (fun r2 s1 => (fp_ite (fp_sm rfl) (fp_j1 (fun b40_0 s3 => (fp_bi (fr_Ta_add _ _ _ _ _ _ _) (by first | decide | simp [hz_r20]) (by first | decide | simp [hz_r20]) (fun r5 s4 => (fp_sm rfl)))) (fun j40 h_j40 => (fp_ite (h_j40 _ _) (h_j40 _ _))))))))
theorem fr_H_watch (v1 : Int32) (v2 : Int32) (s0 : Sg) : fP prI [52] [(51, 3)] s0 (fH_watch v1 v2 s0) := by
  unfold fH_watch
  exact (fp_ite (fp_bi (fr_Ta_empty _ _) (List.forall_mem_nil _) (by first | decide | simp [hz_r20]) (fun r10 s9 => (fp_sm rfl))) (fp_bi (fr_H_within _ _ _ _) (List.forall_mem_nil _) (List.forall_mem_nil _) (fun r2 s1 => (fp_j1 (fun b41_0 s3 => (fp_ite (fp_sm rfl) (fp_bi (fr_Ta_add _ _ _ _ _ _ _) (by first | decide | simp [hz_r20]) (by first | decide | simp [hz_r20]) (fun r5 s4 => (fp_sm rfl))))) (fun j41 h_j41 => (fp_j0 (fun s6 => (h_j41 _ _)) (fun j40 h_j40 => (fp_ite (h_j40 _) (fp_bi (fr_H_within _ _ _ _) (List.forall_mem_nil _) (List.forall_mem_nil _) (fun r8 s7 => (fp_ite (h_j40 _) (h_j41 _ _))))))))))))
theorem fr_H_step (v1 : Int32) (v2 : Int32) (v3 : Int32) (s0 : Sg) : fP prI [54] [(53, 3)] s0 (fH_step v1 v2 v3 s0) := by
  unfold fH_step
  exact (fp_ite (fp_bi (fr_Ta_empty _ _) (List.forall_mem_nil _) (by first | decide | simp [hz_r20]) (fun r12 s11 => (fp_sm rfl))) (fp_bi (fr_H_within _ _ _ _) (List.forall_mem_nil _) (List.forall_mem_nil _) (fun r2 s1 => (fp_j1 (fun b48_0 s3 => (fp_ite (fp_sm rfl) (fp_bi (fr_Ta_add _ _ _ _ _ _ _) (by first | decide | simp [hz_r20]) (by first | decide | simp [hz_r20]) (fun r5 s4 => (fp_sm rfl))))) (fun j48 h_j48 => (fp_j0 (fun s6 => (h_j48 _ _)) (fun j47 h_j47 => (fp_ite (h_j47 _) (fp_bi (fr_H_isWord _ _) (List.forall_mem_nil _) (List.forall_mem_nil _) (fun r8 s7 => (fp_ite (h_j47 _) (fp_bi (fr_H_within _ _ _ _) (List.forall_mem_nil _) (List.forall_mem_nil _) (fun r10 s9 => (fp_ite (h_j47 _) (h_j48 _ _)))))))))))))))
theorem fr_H_spell (v1 : Int32) (v2 : Int32) (v3 : Int32) (s0 : Sg) : fP prI [56] [] s0 (fH_spell v1 v2 v3 s0) := by
  unfold fH_spell
  exact (fp_bi (fr_H_within _ _ _ _) (List.forall_mem_nil _) (List.forall_mem_nil _) (fun r2 s1 => (fp_ite (fp_gb (fp_sm rfl)) (fp_bi (fr_H_within _ _ _ _) (List.forall_mem_nil _) (List.forall_mem_nil _) (fun r4 s3 => (fp_ite (fp_gb (fp_sm rfl)) (fp_lq (fun q27 h_q27 u27 s5 => (fp_ite (fp_bi (fr_H_within _ _ _ _) (List.forall_mem_nil _) (List.forall_mem_nil _) (fun r7 s6 => (fp_ite (fp_gb (fp_sm rfl)) (fp_bv (fr_Ta_put _ _ _ _ _) (by first | decide | simp [hz_r20]) (List.forall_mem_nil _) (fun s8 => (fp_bv (fr_Ta_put _ _ _ _ _) (by first | decide | simp [hz_r20]) (List.forall_mem_nil _) (fun s9 => (fp_gb (fp_sm rfl))))))))) (h_q27 _ _))))))))))
theorem fr_H_speaker (v1 : Int32) (v2 : Int32) (s0 : Sg) : fP prI [58] [(57, 3)] s0 (fH_speaker v1 v2 s0) := by
  unfold fH_speaker
  exact (fp_ite (fp_bi (fr_Ta_empty _ _) (List.forall_mem_nil _) (by first | decide | simp [hz_r20]) (fun r10 s9 => (fp_sm rfl))) (fp_bi (fr_H_within _ _ _ _) (List.forall_mem_nil _) (List.forall_mem_nil _) (fun r2 s1 => (fp_j1 (fun b41_0 s3 => (fp_ite (fp_sm rfl) (fp_bi (fr_Ta_add _ _ _ _ _ _ _) (by first | decide | simp [hz_r20]) (by first | decide | simp [hz_r20]) (fun r5 s4 => (fp_sm rfl))))) (fun j41 h_j41 => (fp_j0 (fun s6 => (h_j41 _ _)) (fun j40 h_j40 => (fp_ite (h_j40 _) (fp_bi (fr_H_within _ _ _ _) (List.forall_mem_nil _) (List.forall_mem_nil _) (fun r8 s7 => (fp_ite (h_j40 _) (h_j41 _ _))))))))))))
theorem fr_H_thing (v1 : Int32) (v2 : Int32) (s0 : Sg) : fP prI [] [] s0 (fH_thing v1 v2 s0) := by
  unfold fH_thing
  exact (fp_bi (fr_H_within _ _ _ _) (List.forall_mem_nil _) (List.forall_mem_nil _) (fun r2 s1 => (fp_ite (fp_sm rfl) (fp_bi (fr_H_within _ _ _ _) (List.forall_mem_nil _) (List.forall_mem_nil _) (fun r4 s3 => (fp_ite (fp_sm rfl) (fp_bi (fr_Mu_roundOf _ _) (List.forall_mem_nil _) (List.forall_mem_nil _) (fun r6 s5 => (fp_ite (fp_sm rfl) (fp_bi (fr_Mu_aheadOfRound _ _ _) (List.forall_mem_nil _) (List.forall_mem_nil _) (fun r8 s7 => (fp_sm rfl))))))))))))
theorem fr_H_price (v1 : Int32) (s0 : Sg) : fP prI [60] [(59, 3)] s0 (fH_price v1 s0) := by
  unfold fH_price
  exact (fp_ite (fp_bi (fr_Ta_empty _ _) (List.forall_mem_nil _) (by first | decide | simp [hz_r20]) (fun r6 s5 => (fp_sm rfl))) (fp_bi (fr_H_within _ _ _ _) (List.forall_mem_nil _) (List.forall_mem_nil _) (fun r2 s1 => (fp_ite (fp_sm rfl) (fp_bi (fr_Ta_add _ _ _ _ _ _ _) (by first | decide | simp [hz_r20]) (by first | decide | simp [hz_r20]) (fun r4 s3 => (fp_sm rfl)))))))
theorem fr_H_bell (v1 : Int32) (v2 : Int32) (s0 : Sg) : fP prI [] [] s0 (fH_bell v1 v2 s0) := by
  unfold fH_bell
  exact (fp_bi (fr_H_within _ _ _ _) (List.forall_mem_nil _) (List.forall_mem_nil _) (fun r2 s1 => (fp_ite (fp_sm rfl) (fp_bi (fr_H_within _ _ _ _) (List.forall_mem_nil _) (List.forall_mem_nil _) (fun r4 s3 => (fp_ite (fp_sm rfl) (fp_bi (fr_Mu_waysToSound _ _ _) (List.forall_mem_nil _) (List.forall_mem_nil _) (fun r6 s5 => (fp_sm rfl)))))))))
theorem fr_H_worth (v1 : Int32) (v2 : Int32) (s0 : Sg) : fP prI [62] [] s0 (fH_worth v1 v2 s0) := by
  unfold fH_worth
  exact (fp_bi (fr_H_within _ _ _ _) (List.forall_mem_nil _) (List.forall_mem_nil _) (fun r2 s1 => (fp_ite (fp_gb (fp_sm rfl)) (fp_bi (fr_H_within _ _ _ _) (List.forall_mem_nil _) (List.forall_mem_nil _) (fun r4 s3 => (fp_ite (fp_gb (fp_sm rfl)) (fp_bv (fr_Ta_put _ _ _ _ _) (by first | decide | simp [hz_r20]) (List.forall_mem_nil _) (fun s5 => (fp_gb (fp_sm rfl))))))))))
theorem fr_J0_length_8abf5 (o0 : Nat) (s0 : Sg) : fP prI [] [] s0 (fJ0_length_8abf5 o0 s0) := by
  unfold fJ0_length_8abf5
  exact (fp_bi (fr_J0_coder_7d493 _ _) (List.forall_mem_nil _) (List.forall_mem_nil _) (fun r2 s1 => (fp_sm rfl)))
theorem fr_J0_checkIndex_df160 (v0 : Int32) (v1 : Int32) (s0 : Sg) : fP prV [] [] s0 (fJ0_checkIndex_df160 v0 v1 s0) := by
  unfold fJ0_checkIndex_df160
  exact (fp_bi (fr_J3_checkIndex_8e157 _ _ _) (List.forall_mem_nil _) (List.forall_mem_nil _) (fun r2 s1 => (fp_sm rfl)))
theorem fr_J0_checkBoundsBeginEnd_23922 (v0 : Int32) (v1 : Int32) (v2 : Int32) (s0 : Sg) : fP prV [] [] s0 (fJ0_checkBoundsBeginEnd_23922 v0 v1 v2 s0) := by
  unfold fJ0_checkBoundsBeginEnd_23922
  exact (fp_bi (fr_J3_checkFromToIndex_8c36e _ _ _ _) (List.forall_mem_nil _) (List.forall_mem_nil _) (fun r2 s1 => (fp_sm rfl)))
theorem fr_J1_charAt_3b067 (o0 : Nat) (v1 : Int32) (s0 : Sg) : fP prI [] [] s0 (fJ1_charAt_3b067 o0 v1 s0) := by
  unfold fJ1_charAt_3b067
  exact (fp_bv (fr_J0_checkIndex_df160 _ _ _) (List.forall_mem_nil _) (List.forall_mem_nil _) (fun s1 => (fp_gd (fp_gch (fp_sm rfl)))))
theorem fr_J1_indexOf_4cfef (o0 : Nat) (v1 : Int32) (v2 : Int32) (v3 : Int32) (s0 : Sg) : fP prI [] [] s0 (fJ1_indexOf_4cfef o0 v1 v2 v3 s0) := by
  unfold fJ1_indexOf_4cfef
  exact (fp_bi (fr_J1_canEncode_9a6ad _ _) (List.forall_mem_nil _) (List.forall_mem_nil _) (fun r2 s1 => (fp_ite (fp_sm rfl) (fp_bi (fr_J9_max_7cf53 _ _ _) (List.forall_mem_nil _) (List.forall_mem_nil _) (fun r4 s3 => (fp_bi (fr_J9_min_7cf53 _ _ _) (List.forall_mem_nil _) (List.forall_mem_nil _) (fun r6 s5 => (fp_ite (fp_bi (fr_J1_indexOfChar_4cfef _ _ _ _ _) (List.forall_mem_nil _) (List.forall_mem_nil _) (fun r8 s7 => (fp_sm rfl))) (fp_sm rfl)))))))))
theorem fr_J2_checkIndex_2214a (v0 : Int32) (o1 : Nat) (s0 : Sg) : fP prV [] [] s0 (fJ2_checkIndex_2214a v0 o1 s0) := by
  unfold fJ2_checkIndex_2214a
  exact (fp_bi (fr_J2_length_9d52b _ _) (List.forall_mem_nil _) (List.forall_mem_nil _) (fun r2 s1 => (fp_bv (fr_J0_checkIndex_df160 _ _ _) (List.forall_mem_nil _) (List.forall_mem_nil _) (fun s3 => (fp_sm rfl)))))
theorem fr_J2_checkBoundsBeginEnd_d044e (v0 : Int32) (v1 : Int32) (o2 : Nat) (s0 : Sg) : fP prV [] [] s0 (fJ2_checkBoundsBeginEnd_d044e v0 v1 o2 s0) := by
  unfold fJ2_checkBoundsBeginEnd_d044e
  exact (fp_bi (fr_J2_length_9d52b _ _) (List.forall_mem_nil _) (List.forall_mem_nil _) (fun r2 s1 => (fp_bv (fr_J0_checkBoundsBeginEnd_23922 _ _ _ _) (List.forall_mem_nil _) (List.forall_mem_nil _) (fun s3 => (fp_sm rfl)))))
theorem fr_La_become (o0 : Nat) (o1 : Nat) (s0 : Sg) : fP prV [(hz_rf (hz_rf o0 0) 2), (hz_rf o0 1)] [((hz_rf o0 0), 3), (o0, 3)] s0 (fLa_become o0 o1 s0) := by
  unfold fLa_become
  exact (fp_bv (fr_Ta_become _ _ _) (by first | decide | simp [hz_r20]) (by first | decide | simp [hz_r20]) (fun s1 => (fp_bv fp_cpy (by first | decide | simp [hz_r20]) (List.forall_mem_nil _) (fun s2 => (fp_ptF (by simp) (fun s3 => (fp_sm rfl)))))))
theorem fr_La_value (o0 : Nat) (v1 : Int32) (v2 : Int32) (o3 : Nat) (v4 : Int32) (s0 : Sg) : fP prI [(hz_rf o0 2)] [] s0 (fLa_value o0 v1 v2 o3 v4 s0) := by
  unfold fLa_value
  exact (fp_bi (fr_J9_min_7cf53 _ _ _) (List.forall_mem_nil _) (List.forall_mem_nil _) (fun r2 s1 => (fp_bi (fr_J9_max_7cf53 _ _ _) (List.forall_mem_nil _) (List.forall_mem_nil _) (fun r4 s3 => (fp_lq (fun q20 h_q20 u20 s5 => (fp_ite (fp_ite (fp_sm rfl) (fp_gd (fp_sm rfl))) (fp_gd (fp_nm (fun x6 => (fp_j1 (fun a219_6 s7 => (h_q20 _ _)) (fun j219 h_j219 => (fp_ite (fp_ite (fp_sm rfl) (fp_ite (fp_ite (fp_ite (fp_gd (fp_gd (fp_ptA (by simp) (fun s11 => (h_j219 _ _))))) (fp_ite (fp_gd (fp_gd (fp_bi (fr_La_joined _ _ _ _) (List.forall_mem_nil _) (List.forall_mem_nil _) (fun r9 s8 => (fp_gd (fp_ptA (by simp) (fun s10 => (h_j219 _ _)))))))) (fp_sm rfl))) (fp_gd (fp_gz (fp_gd (fp_ptA (by simp) (fun s12 => (h_j219 _ _))))))) (fp_sm rfl))) (fp_ite (fp_j1 (fun b84_0 s13 => (fp_gd (fp_ptA (by simp) (fun s14 => (h_j219 _ _))))) (fun j84 h_j84 => (fp_ite (fp_bi (fr_Sc_meaning _ _ _ _) (List.forall_mem_nil _) (List.forall_mem_nil _) (fun r16 s15 => (h_j84 _ _))) (h_j84 _ _)))) (fp_sm rfl)))))))))))))))
theorem fr_Mu_bestWord (v1 : Int32) (s0 : Sg) : fP prI [] [] s0 (fMu_bestWord v1 s0) := by
  unfold fMu_bestWord
  exact (fp_lq (fun q4 h_q4 u4 s1 => (fp_ite (fp_sm rfl) (fp_bi (fr_Mu_matches _ _ _) (List.forall_mem_nil _) (List.forall_mem_nil _) (fun r3 s2 => (fp_bi (fr_Mu_matches _ _ _) (List.forall_mem_nil _) (List.forall_mem_nil _) (fun r5 s4 => (fp_j1 (fun a27_2 s6 => (h_q4 _ _)) (fun j27 h_j27 => (fp_ite (h_j27 _ _) (h_j27 _ _)))))))))))
theorem fr_Mu_cover (v1 : Int32) (s0 : Sg) : fP prV [] [(66, 7), (66, 8)] s0 (fMu_cover v1 s0) := by
  unfold fMu_cover
  exact (fp_ptF (by decide) (fun s1 => (fp_ptF (by decide) (fun s2 => (fp_bv (fr_Mu_coverRest _ _ _ _ _) (List.forall_mem_nil _) (fun _ h => Or.inl h) (fun s3 => (fp_sm rfl)))))))
theorem fr_Mu_agrees (v1 : Int32) (s0 : Sg) : fP prI [] [] s0 (fMu_agrees v1 s0) := by
  unfold fMu_agrees
  exact (fp_lq (fun q2 h_q2 u2 s1 => (fp_ite (fp_gb (fp_sm rfl)) (fp_bi (fr_Ta_tell _ _ _ _) (List.forall_mem_nil _) (List.forall_mem_nil _) (fun r3 s2 => (fp_j1 (fun b37_0 s4 => (fp_bi (fr_Ta_tell _ _ _ _) (List.forall_mem_nil _) (List.forall_mem_nil _) (fun r6 s5 => (fp_bi (fr_Te_suits _ _ _ _) (List.forall_mem_nil _) (List.forall_mem_nil _) (fun r8 s7 => (fp_ite (h_q2 _ _) (fp_gb (fp_sm rfl)))))))) (fun j37 h_j37 => (fp_ite (h_j37 _ _) (h_j37 _ _)))))))))
theorem fr_Mu_manyRight (v1 : Int32) (v2 : Int32) (s0 : Sg) : fP prI [] [] s0 (fMu_manyRight v1 v2 s0) := by
  unfold fMu_manyRight
  exact (fp_lq (fun q5 h_q5 u5 s1 => (fp_ite (fp_sm rfl) (fp_j1 (fun a38_3 s2 => (h_q5 _ _)) (fun j38 h_j38 => (fp_ite (fp_bi (fr_Te_suits _ _ _ _) (List.forall_mem_nil _) (List.forall_mem_nil _) (fun r4 s3 => (fp_ite (h_j38 _ _) (h_j38 _ _)))) (h_j38 _ _)))))))
theorem fr_Mu_furthest (v1 : Int32) (s0 : Sg) : fP prI [] [] s0 (fMu_furthest v1 s0) := by
  unfold fMu_furthest
  exact (fp_lq (fun q4 h_q4 u4 s1 => (fp_ite (fp_sm rfl) (fp_bi (fr_Ta_tell _ _ _ _) (List.forall_mem_nil _) (List.forall_mem_nil _) (fun r3 s2 => (fp_j1 (fun a51_2 s4 => (h_q4 _ _)) (fun j51 h_j51 => (fp_ite (h_j51 _ _) (fp_bi (fr_Ta_tell _ _ _ _) (List.forall_mem_nil _) (List.forall_mem_nil _) (fun r6 s5 => (fp_bi (fr_J9_max_7cf53 _ _ _) (List.forall_mem_nil _) (List.forall_mem_nil _) (fun r8 s7 => (h_j51 _ _)))))))))))))
theorem fr_Mu_leadsTo (v1 : Int32) (v2 : Int32) (s0 : Sg) : fP prI [] [] s0 (fMu_leadsTo v1 v2 s0) := by
  unfold fMu_leadsTo
  exact (fp_lq (fun q2 h_q2 u2 s1 => (fp_ite (fp_sm rfl) (fp_bi (fr_Ta_tell _ _ _ _) (List.forall_mem_nil _) (List.forall_mem_nil _) (fun r3 s2 => (fp_j0 (fun s4 => (h_q2 _ _)) (fun j61 h_j61 => (fp_ite (fp_bi (fr_Ta_tell _ _ _ _) (List.forall_mem_nil _) (List.forall_mem_nil _) (fun r6 s5 => (fp_ite (fp_bi (fr_Ta_tell _ _ _ _) (List.forall_mem_nil _) (List.forall_mem_nil _) (fun r8 s7 => (fp_sm rfl))) (h_j61 _)))) (h_j61 _)))))))))
theorem fr_Mu_stepsBy (v1 : Int32) (v2 : Int32) (v3 : Int32) (s0 : Sg) : fP prI [] [] s0 (fMu_stepsBy v1 v2 v3 s0) := by
  unfold fMu_stepsBy
  exact (fp_lq (fun q6 h_q6 u6 s1 => (fp_ite (fp_sm rfl) (fp_ite (fp_sm rfl) (fp_ite (fp_sm rfl) (fp_bi (fr_Mu_leadsTo _ _ _) (List.forall_mem_nil _) (List.forall_mem_nil _) (fun r3 s2 => (h_q6 _ _))))))))
theorem fr_Mu_startAt (v1 : Int32) (s0 : Sg) : fP prV [67] [] s0 (fMu_startAt v1 s0) := by
  unfold fMu_startAt
  exact (fp_bv (fr_J7_fill_53178 _ _ _) (by first | decide | simp [hz_r20]) (List.forall_mem_nil _) (fun s1 => (fp_bv (fr_Mu_reach _ _ _) (fun _ h => h) (List.forall_mem_nil _) (fun s2 => (fp_sm rfl)))))
theorem fr_Mu_oneApart (v1 : Int32) (v2 : Int32) (s0 : Sg) : fP prI [] [] s0 (fMu_oneApart v1 v2 s0) := by
  unfold fMu_oneApart
  exact (fp_bi (fr_Ta_tell _ _ _ _) (List.forall_mem_nil _) (List.forall_mem_nil _) (fun r2 s1 => (fp_bi (fr_Ta_tell _ _ _ _) (List.forall_mem_nil _) (List.forall_mem_nil _) (fun r4 s3 => (fp_ite (fp_bi (fr_Ta_tell _ _ _ _) (List.forall_mem_nil _) (List.forall_mem_nil _) (fun r6 s5 => (fp_bi (fr_Ta_tell _ _ _ _) (List.forall_mem_nil _) (List.forall_mem_nil _) (fun r8 s7 => (fp_lq (fun q65 h_q65 u65 s9 => (fp_ite (fp_ite (fp_gb (fp_sm rfl)) (fp_gb (fp_sm rfl))) (fp_gz (fp_gz (fp_j1 (fun a87_6 s10 => (fp_gz (fp_gz (h_q65 _ _)))) (fun j87 h_j87 => (fp_ite (h_j87 _ _) (h_j87 _ _))))))))))))) (fp_gb (fp_sm rfl)))))))
theorem fr_Mu_seatB (rec : Int32 → Int32 → Int32 → Int32 → Sg → Option (Sg)) (hrec : ∀ (v1 : Int32) (v2 : Int32) (v3 : Int32) (v4 : Int32) (s0 : Sg), fP prV [68, 69] [(66, 6)] s0 (rec v1 v2 v3 v4 s0)) (v1 : Int32) (v2 : Int32) (v3 : Int32) (v4 : Int32) (s0 : Sg) : fP prV [68, 69] [(66, 6)] s0 (fMu_seatB rec v1 v2 v3 v4 s0) := by
  unfold fMu_seatB
  exact (fp_ite (fp_j0 (fun s1 => (fp_ptF (by decide) (fun s2 => (fp_bv fp_cpy (by decide) (List.forall_mem_nil _) (fun s3 => (fp_sm rfl)))))) (fun j46 h_j46 => (fp_ite (h_j46 _) (fp_ite (h_j46 _) (fp_ite (fp_lq (fun q71 h_q71 u71 s4 => (fp_ite (fp_sm rfl) (fp_j0 (fun s5 => (h_q71 _ _)) (fun j160 h_j160 => (fp_ite (h_j160 _) (fp_gd (fp_ptA (by decide) (fun s6 => (fp_bi (fr_Ta_tell _ _ _ _) (List.forall_mem_nil _) (List.forall_mem_nil _) (fun r8 s7 => (fp_ite (fp_bi (fr_Ta_tell _ _ _ _) (List.forall_mem_nil _) (List.forall_mem_nil _) (fun r10 s9 => (fp_bv (hrec _ _ _ _ _) (fun _ h => h) (fun _ h => Or.inl h) (fun s11 => (h_j160 _))))) (fp_bv (hrec _ _ _ _ _) (fun _ h => h) (fun _ h => Or.inl h) (fun s12 => (h_j160 _))))))))))))))) (h_j46 _)))))) (fp_sm rfl))
theorem fr_Mu_seat : ∀ (n : Nat) (v1 : Int32) (v2 : Int32) (v3 : Int32) (v4 : Int32) (s0 : Sg), fP prV [68, 69] [(66, 6)] s0 (fMu_seat n v1 v2 v3 v4 s0)
  | 0, _, _, _, _, _ => fp_no
  | n + 1, v1, v2, v3, v4, s0 => fr_Mu_seatB (fMu_seat n) (fr_Mu_seat n) v1 v2 v3 v4 s0
theorem fr_Mu_isHeard (v1 : Int32) (v2 : Int32) (s0 : Sg) : fP prI [] [] s0 (fMu_isHeard v1 v2 s0) := by
  unfold fMu_isHeard
  exact (fp_bi (fr_J9_max_7cf53 _ _ _) (List.forall_mem_nil _) (List.forall_mem_nil _) (fun r2 s1 => (fp_lq (fun q8 h_q8 u8 s3 => (fp_ite (fp_gb (fp_sm rfl)) (fp_bi (fr_Ta_tell _ _ _ _) (List.forall_mem_nil _) (List.forall_mem_nil _) (fun r5 s4 => (fp_bi (fr_Ta_tell _ _ _ _) (List.forall_mem_nil _) (List.forall_mem_nil _) (fun r7 s6 => (fp_ite (h_q8 _ _) (fp_gb (fp_sm rfl))))))))))))
theorem fr_Mu_worthOfTwo (o1 : Nat) (s0 : Sg) : fP prI [] [] s0 (fMu_worthOfTwo o1 s0) := by
  unfold fMu_worthOfTwo
  exact (fp_lq (fun q4 h_q4 u4 s1 => (fp_ite (fp_lq (fun q42 h_q42 u42 s2 => (fp_ite (fp_sm rfl) (fp_lq (fun q54 h_q54 u54 s3 => (fp_ite (h_q42 _ _) (fp_j1 (fun a112_3 s4 => (h_q54 _ _)) (fun j112 h_j112 => (fp_ite (fp_ite (fp_bi (fr_Ta_tell _ _ _ _) (List.forall_mem_nil _) (List.forall_mem_nil _) (fun r6 s5 => (fp_bi (fr_Ta_tell _ _ _ _) (List.forall_mem_nil _) (List.forall_mem_nil _) (fun r8 s7 => (fp_bi (fr_J9_max_7cf53 _ _ _) (List.forall_mem_nil _) (List.forall_mem_nil _) (fun r10 s9 => (h_j112 _ _))))))) (h_j112 _ _)) (h_j112 _ _)))))))))) (fp_bi (fr_Sc_isUp _ _ _) (List.forall_mem_nil _) (List.forall_mem_nil _) (fun r12 s11 => (fp_j1 (fun a31_2 s13 => (h_q4 _ _)) (fun j31 h_j31 => (fp_ite (h_j31 _ _) (fp_bi (fr_Sc_tell _ _ _ _) (List.forall_mem_nil _) (List.forall_mem_nil _) (fun r15 s14 => (fp_nm (fun x16 => (h_j31 _ _)))))))))))))
theorem fr_Mu_openingMove (o1 : Nat) (v2 : Int32) (s0 : Sg) : fP prI [70] [] s0 (fMu_openingMove o1 v2 s0) := by
  unfold fMu_openingMove
  exact (fp_bv (fr_Mu_fillNim _) (fun _ h => h) (List.forall_mem_nil _) (fun s1 => (fp_lq (fun q9 h_q9 u9 s2 => (fp_ite (fp_lq (fun q41 h_q41 u41 s3 => (fp_ite (fp_sm rfl) (fp_ite (fp_sm rfl) (fp_bi (fr_Sc_tell _ _ _ _) (List.forall_mem_nil _) (List.forall_mem_nil _) (fun r5 s4 => (fp_lq (fun q66 h_q66 u66 s6 => (fp_ite (h_q41 _ _) (fp_bi (fr_Mu_nimOf _ _) (List.forall_mem_nil _) (List.forall_mem_nil _) (fun r8 s7 => (fp_bi (fr_Mu_nimOf _ _) (List.forall_mem_nil _) (List.forall_mem_nil _) (fun r10 s9 => (fp_ite (fp_ite (fp_sm rfl) (fp_sm rfl)) (h_q66 _ _))))))))))))))) (fp_bi (fr_Sc_tell _ _ _ _) (List.forall_mem_nil _) (List.forall_mem_nil _) (fun r12 s11 => (fp_bi (fr_Mu_nimOf _ _) (List.forall_mem_nil _) (List.forall_mem_nil _) (fun r14 s13 => (h_q9 _ _))))))))))
theorem pk_nw : ∀ k, k < 6 → (∀ x ∈ [hz_rf (hz_rf 6 k) 0], x ∈ [7, 8, 9, 10, 11, 12, 13, 14, 15, 16, 17, 18]) ∧ ∀ x ∈ [(hz_rf 6 k, 1), (hz_rf 6 k, 2), (hz_rf 6 k, 3), (hz_rf 6 k, 4), (hz_rf 6 k, 5), (hz_rf 6 k, 6), (hz_rf 6 k, 7), (hz_rf 6 k, 8), (hz_rf 6 k, 9), (hz_rf 6 k, 10), (hz_rf 6 k, 11), (hz_rf 6 k, 12)], x ∈ [(5, 1), (5, 2)] ∨ x.1 ∈ [7, 8, 9, 10, 11, 12, 13, 14, 15, 16, 17, 18] := by decide
theorem pk_newest {τ : Sg} {u : Nat × Sg} (hu : fPa_newest τ = some u) : ∃ k, k < 6 ∧ u.1 = hz_rf 6 k := by
  unfold fPa_newest at hu
  obtain ⟨w, hw, hg⟩ := Option.bind_eq_some_iff.mp hu
  change (if w.1 < 0 ∨ 6 ≤ w.1.toNatClampNeg then none else some (hz_rf 6 (ix w.1), w.2)) = some u at hg
  split at hg
  · cases hg
  · cases hg
    exact ⟨ix w.1, Nat.lt_of_not_le (fun h => by rename_i hn; exact hn (Or.inr h)), rfl⟩
theorem fr_Pa_keepT (o1 : Nat) (τ : Sg) : fP prV [7, 8, 9, 10, 11, 12, 13, 14, 15, 16, 17, 18] [(5, 1), (5, 2)] τ (br (fPa_newest τ) fun r3 s2 => gk r3 5 (bv (fSc_become r3 o1 s2) fun s5 => some s5)) := by
  intro z hz
  obtain ⟨u, hu, hk⟩ := Option.bind_eq_some_iff.mp hz
  have hf := fr_Pa_newest τ u hu
  obtain ⟨k, hk6, e⟩ := pk_newest hu
  intro o q h1 h2
  have hb : fP prV [7, 8, 9, 10, 11, 12, 13, 14, 15, 16, 17, 18] [(5, 1), (5, 2)] u.2 (gk u.1 5 (bv (fSc_become u.1 o1 u.2) fun s5 => some s5)) := by
    rw [e]
    exact fp_gk (fp_bv (fr_Sc_become _ o1 u.2) (pk_nw k hk6).1 (pk_nw k hk6).2 (fun τ => fp_sm rfl))
  rw [hb z hk o q h1 h2]
  exact hf o q (by simp) (by simp)
theorem fr_Pa_keep (o1 : Nat) (s0 : Sg) : fP prV [7, 8, 9, 10, 11, 12, 13, 14, 15, 16, 17, 18] [(5, 1), (5, 2)] s0 (fPa_keep o1 s0) := by
  unfold fPa_keep
  exact fp_j0 (fun τ => fr_Pa_keepT o1 τ) (fun k hk => fp_ite (fp_gz (fp_ptF (by decide) (fun τ => hk τ))) (fp_ptF (by decide) (fun τ => hk τ)))
theorem fr_Pa_goBack (o1 : Nat) (s0 : Sg) : fP prI [(hz_rf o1 0)] [(5, 2), (o1, 1), (o1, 2), (o1, 3), (o1, 4), (o1, 5), (o1, 6), (o1, 7), (o1, 8), (o1, 9), (o1, 10), (o1, 11), (o1, 12)] s0 (fPa_goBack o1 s0) := by
  unfold fPa_goBack
  exact (fp_ite (fp_br (fr_Pa_newest _) (List.forall_mem_nil _) (List.forall_mem_nil _) (fun r2 s1 => (fp_gk (fp_bv (fr_Sc_become _ _ _) (by first | decide | simp [hz_r20]) (by first | decide | simp [hz_r20]) (fun s4 => (fp_ptF (by simp) (fun s5 => (fp_gb (fp_sm rfl))))))))) (fp_gb (fp_sm rfl)))
theorem fr_Re_readClimb (v1 : Int32) (s0 : Sg) : fP prI [43] [(30, 3), (30, 4), (30, 5), (31, 6), (31, 7), (31, 8), (31, 9), (42, 3)] s0 (fRe_readClimb v1 s0) := by
  unfold fRe_readClimb
  exact (fp_bi (fr_Re_keyNumber _ _ _ _) (List.forall_mem_nil _) (by decide) (fun r2 s1 => (fp_ite (fp_gb (fp_sm rfl)) (fp_bi (fr_Re_keyNumber _ _ _ _) (List.forall_mem_nil _) (by decide) (fun r4 s3 => (fp_ite (fp_gb (fp_sm rfl)) (fp_bi (fr_Re_keyNumber _ _ _ _) (List.forall_mem_nil _) (by decide) (fun r6 s5 => (fp_ite (fp_gb (fp_sm rfl)) (fp_bi (fr_Re_keyNumber _ _ _ _) (List.forall_mem_nil _) (by decide) (fun r8 s7 => (fp_ite (fp_gb (fp_sm rfl)) (fp_bi (fr_Ta_add _ _ _ _ _ _ _) (by first | decide | simp [hz_r20]) (by first | decide | simp [hz_r20]) (fun r10 s9 => (fp_gb (fp_sm rfl))))))))))))))))
theorem fr_Re_readSun (s0 : Sg) : fP prI [45] [(30, 3), (30, 4), (30, 5), (31, 6), (31, 7), (31, 8), (31, 9), (44, 3)] s0 (fRe_readSun s0) := by
  unfold fRe_readSun
  exact (fp_bi (fr_Re_keyNumber _ _ _ _) (List.forall_mem_nil _) (by decide) (fun r2 s1 => (fp_ite (fp_gb (fp_sm rfl)) (fp_bi (fr_Re_keyNumber _ _ _ _) (List.forall_mem_nil _) (by decide) (fun r4 s3 => (fp_ite (fp_gb (fp_sm rfl)) (fp_bi (fr_Ta_add _ _ _ _ _ _ _) (by first | decide | simp [hz_r20]) (by first | decide | simp [hz_r20]) (fun r6 s5 => (fp_gb (fp_sm rfl))))))))))
theorem fr_Re_readSuit (s0 : Sg) : fP prI [46] [(30, 3), (30, 4), (30, 5), (31, 6), (31, 7), (31, 8), (31, 9), (36, 4)] s0 (fRe_readSuit s0) := by
  unfold fRe_readSuit
  exact (fp_bi (fr_Re_keyNumber _ _ _ _) (List.forall_mem_nil _) (by decide) (fun r2 s1 => (fp_ite (fp_gb (fp_sm rfl)) (fp_bi (fr_Re_keyNumber _ _ _ _) (List.forall_mem_nil _) (by decide) (fun r4 s3 => (fp_ite (fp_gb (fp_sm rfl)) (fp_bv (fr_Te_addSuit _ _ _ _) (by first | decide | simp [hz_r20]) (List.forall_mem_nil _) (fun s5 => (fp_lq (fun q45 h_q45 u45 s6 => (fp_j0 (fun s7 => (fp_ptF (by decide) (fun s8 => (fp_gb (fp_sm rfl))))) (fun j93 h_j93 => (fp_ite (h_j93 _) (fp_ite (fp_bi (fr_Re_number _ _ _) (List.forall_mem_nil _) (by decide) (fun r10 s9 => (fp_ite (fp_gb (fp_sm rfl)) (fp_bv (fr_Te_addSuit _ _ _ _) (by first | decide | simp [hz_r20]) (List.forall_mem_nil _) (fun s11 => (h_q45 _ _)))))) (h_j93 _)))))))))))))))
theorem fr_Re_readComparison (s0 : Sg) : fP prI [47] [(30, 3), (30, 4), (30, 6), (31, 6), (31, 7), (31, 8), (31, 9)] s0 (fRe_readComparison s0) := by
  unfold fRe_readComparison
  exact (fp_bi (fr_H_within _ _ _ _) (List.forall_mem_nil _) (List.forall_mem_nil _) (fun r2 s1 => (fp_ite (fp_bi (fr_Re_wrong _ _) (List.forall_mem_nil _) (by decide) (fun r5 s4 => (fp_gb (fp_sm rfl)))) (fp_bv (fr_Re_await _ _) (fun _ h => h) (by decide) (fun s3 => (fp_gb (fp_sm rfl)))))))
theorem fr_Re_closeBrackets (s0 : Sg) : fP prV [40] [(30, 6), (30, 7), (31, 6), (31, 7), (31, 8), (31, 9), (37, 3)] s0 (fRe_closeBrackets s0) := by
  unfold fRe_closeBrackets
  exact (fp_lq (fun q0 h_q0 u0 s1 => (fp_ite (fp_sm rfl) (fp_ite (fp_bv (fr_Re_release _ _) (fun _ h => h) (by decide) (fun s2 => (fp_bi (fr_Re_waitingLast _) (List.forall_mem_nil _) (List.forall_mem_nil _) (fun r4 s3 => (fp_ite (fp_ptF (by decide) (fun s5 => (fp_ptF (by decide) (fun s6 => (fp_bv (fr_To_advance _) (List.forall_mem_nil _) (by decide) (fun s7 => (h_q0 _ _))))))) (fp_sm rfl)))))) (fp_sm rfl)))))
theorem fr_Re_readSum (s0 : Sg) : fP prI [40] [(30, 3), (30, 4), (30, 5), (31, 6), (31, 7), (31, 8), (31, 9), (37, 3)] s0 (fRe_readSum s0) := by
  unfold fRe_readSum
  exact (fp_bi (fr_Re_readUnit _) (fun _ h => h) (by decide) (fun r2 s1 => (fp_lq (fun q9 h_q9 u9 s3 => (fp_j0 (fun s4 => (fp_bv (fr_Re_addSum _ _) (fun _ h => h) (by decide) (fun s5 => (fp_gb (fp_sm rfl))))) (fun j151 h_j151 => (fp_ite (h_j151 _) (fp_ite (h_j151 _) (fp_j2 (fun a145_1 a145_2 s6 => (h_q9 _ _)) (fun j145 h_j145 => (fp_ite (fp_bv (fr_To_advance _) (List.forall_mem_nil _) (by decide) (fun s16 => (fp_bi (fr_Re_readUnit _) (fun _ h => h) (by decide) (fun r18 s17 => (fp_bv (fr_La_addCode _ _ _) (by first | decide | simp [hz_r20]) (by first | decide | simp [hz_r20]) (fun s19 => (h_j145 _ _ _))))))) (fp_ite (fp_bv (fr_To_advance _) (List.forall_mem_nil _) (by decide) (fun s12 => (fp_bi (fr_Re_number _ _ _) (List.forall_mem_nil _) (by decide) (fun r14 s13 => (fp_bv (fr_La_addCode _ _ _) (by first | decide | simp [hz_r20]) (by first | decide | simp [hz_r20]) (fun s15 => (h_j145 _ _ _))))))) (fp_j0 (fun s7 => (fp_bv (fr_Re_addSum _ _) (fun _ h => h) (by decide) (fun s8 => (fp_bv (fr_To_advance _) (List.forall_mem_nil _) (by decide) (fun s9 => (fp_bi (fr_Re_readUnit _) (fun _ h => h) (by decide) (fun r11 s10 => (h_j145 _ _ _)))))))) (fun j125 h_j125 => (fp_ite (h_j125 _) (fp_ite (h_j125 _) (h_j151 _)))))))))))))))))
theorem fr_Su_putSunset (o1 : Nat) (s0 : Sg) : fP prV [] [(o1, 8)] s0 (fSu_putSunset o1 s0) := by
  unfold fSu_putSunset
  exact (fp_lq (fun q2 h_q2 u2 s1 => (fp_ite (fp_sm rfl) (fp_bi (fr_Ta_tell _ _ _ _) (List.forall_mem_nil _) (List.forall_mem_nil _) (fun r3 s2 => (fp_j0 (fun s4 => (h_q2 _ _)) (fun j51 h_j51 => (fp_ite (fp_bi (fr_Ta_tell _ _ _ _) (List.forall_mem_nil _) (List.forall_mem_nil _) (fun r6 s5 => (fp_ptF (by simp) (fun s7 => (h_j51 _))))) (h_j51 _)))))))))
theorem fr_Su_letClimbersGo (o1 : Nat) (s0 : Sg) : fP prV [(hz_rf o1 0)] [] s0 (fSu_letClimbersGo o1 s0) := by
  unfold fSu_letClimbersGo
  exact (fp_lq (fun q10 h_q10 u10 s1 => (fp_ite (fp_sm rfl) (fp_bi (fr_Ta_tell _ _ _ _) (List.forall_mem_nil _) (List.forall_mem_nil _) (fun r3 s2 => (fp_bi (fr_Ta_tell _ _ _ _) (List.forall_mem_nil _) (List.forall_mem_nil _) (fun r5 s4 => (fp_j1 (fun b57_0 s6 => (fp_j0 (fun s7 => (h_q10 _ _)) (fun j86 h_j86 => (fp_ite (h_j86 _) (fp_bi (fr_Sc_tell _ _ _ _) (List.forall_mem_nil _) (List.forall_mem_nil _) (fun r9 s8 => (fp_ite (fp_bi (fr_Ta_tell _ _ _ _) (List.forall_mem_nil _) (List.forall_mem_nil _) (fun r11 s10 => (fp_bv (fr_Sc_letGo _ _ _ _) (by first | decide | simp [hz_r20]) (List.forall_mem_nil _) (fun s12 => (h_j86 _))))) (h_j86 _)))))))) (fun j57 h_j57 => (fp_j0 (fun s13 => (h_j57 _ _)) (fun j56 h_j56 => (fp_ite (fp_bi (fr_Ta_tell _ _ _ _) (List.forall_mem_nil _) (List.forall_mem_nil _) (fun r15 s14 => (fp_ite (h_j57 _ _) (h_j56 _)))) (h_j56 _)))))))))))))
theorem fr_Su_note (o1 : Nat) (v2 : Int32) (v3 : Int32) (v4 : Int32) (s0 : Sg) : fP prV [64] [(63, 3), (o1, 12)] s0 (fSu_note o1 v2 v3 v4 s0) := by
  unfold fSu_note
  exact (fp_ptF (by simp) (fun s1 => (fp_bi (fr_Ta_add _ _ _ _ _ _ _) (by first | decide | simp [hz_r20]) (by first | decide | simp [hz_r20]) (fun r3 s2 => (fp_ite (fp_sm rfl) (fp_ptF (by simp) (fun s4 => (fp_sm rfl))))))))
theorem fr_Te_adopt (o0 : Nat) (v1 : Int32) (o2 : Nat) (s0 : Sg) : fP prV [(hz_rf (hz_rf (hz_rf o0 0) 0) 2), (hz_rf (hz_rf o0 0) 1), (hz_rf (hz_rf o0 1) 2), (hz_rf (hz_rf o0 2) 2), (hz_rf o0 3)] [((hz_rf (hz_rf o0 0) 0), 3), ((hz_rf o0 0), 3), ((hz_rf o0 1), 3), ((hz_rf o0 2), 3), (o0, 4)] s0 (fTe_adopt o0 v1 o2 s0) := by
  unfold fTe_adopt
  exact (fp_ite (fp_bv (fr_La_become _ _ _) (by first | decide | simp [hz_r20]) (by first | decide | simp [hz_r20]) (fun s5 => (fp_sm rfl))) (fp_ite (fp_bv (fr_Ta_become _ _ _) (by first | decide | simp [hz_r20]) (by first | decide | simp [hz_r20]) (fun s4 => (fp_sm rfl))) (fp_ite (fp_bv (fr_Ta_become _ _ _) (by first | decide | simp [hz_r20]) (by first | decide | simp [hz_r20]) (fun s3 => (fp_sm rfl))) (fp_ite (fp_bv fp_cpy (by first | decide | simp [hz_r20]) (List.forall_mem_nil _) (fun s1 => (fp_ptF (by simp) (fun s2 => (fp_sm rfl))))) (fp_sm rfl)))))
theorem fr_Te_become (o0 : Nat) (o1 : Nat) (s0 : Sg) : fP prV [(hz_rf (hz_rf (hz_rf o0 0) 0) 2), (hz_rf (hz_rf o0 0) 1), (hz_rf (hz_rf o0 1) 2), (hz_rf (hz_rf o0 2) 2), (hz_rf o0 3)] [((hz_rf (hz_rf o0 0) 0), 3), ((hz_rf o0 0), 3), ((hz_rf o0 1), 3), ((hz_rf o0 2), 3), (o0, 4)] s0 (fTe_become o0 o1 s0) := by
  unfold fTe_become
  exact (fp_lq (fun q2 h_q2 u2 s1 => (fp_ite (fp_sm rfl) (fp_bv (fr_Te_adopt _ _ _ _) (by first | decide | simp [hz_r20]) (by first | decide | simp [hz_r20]) (fun s2 => (h_q2 _ _))))))
theorem fr_To_behindLetters (v1 : Int32) (s0 : Sg) : fP prI [] [] s0 (fTo_behindLetters v1 s0) := by
  unfold fTo_behindLetters
  exact (fp_lq (fun q4 h_q4 u4 s1 => (fp_ite (fp_sm rfl) (fp_bi (fr_To_signAt _ _) (List.forall_mem_nil _) (List.forall_mem_nil _) (fun r3 s2 => (fp_bi (fr_To_isLetter _ _) (List.forall_mem_nil _) (List.forall_mem_nil _) (fun r5 s4 => (fp_ite (fp_sm rfl) (h_q4 _ _)))))))))
theorem fr_To_behindDigits (v1 : Int32) (s0 : Sg) : fP prI [] [] s0 (fTo_behindDigits v1 s0) := by
  unfold fTo_behindDigits
  exact (fp_lq (fun q4 h_q4 u4 s1 => (fp_ite (fp_sm rfl) (fp_bi (fr_To_signAt _ _) (List.forall_mem_nil _) (List.forall_mem_nil _) (fun r3 s2 => (fp_bi (fr_To_isDigit _ _) (List.forall_mem_nil _) (List.forall_mem_nil _) (fun r5 s4 => (fp_ite (fp_sm rfl) (h_q4 _ _)))))))))
theorem fr_H_act (v1 : Int32) (v2 : Int32) (v3 : Int32) (s0 : Sg) : fP prI [10, 11, 12, 13, 14, 15, 16, 17, 18, 2, 64, 7, 8, 9] [(1, 4), (1, 5), (1, 12), (5, 1), (5, 2), (63, 3)] s0 (fH_act v1 v2 v3 s0) := by
  unfold fH_act
  exact (fp_bi (fr_Sc_has _ _ _) (List.forall_mem_nil _) (List.forall_mem_nil _) (fun r2 s1 => (fp_ite (fp_gb (fp_sm rfl)) (fp_bi (fr_Sc_tell _ _ _ _) (List.forall_mem_nil _) (List.forall_mem_nil _) (fun r4 s3 => (fp_j1 (fun b31_0 s5 => (fp_j0 (fun s6 => (fp_j0 (fun s7 => (fp_ite (fp_ite (fp_gb (fp_sm rfl)) (fp_bv (fr_Pa_keep _ _) (by decide) (by decide) (fun s8 => (fp_bv (fr_Sc_sendHome _ _ _) (by first | decide | simp [hz_r20]) (List.forall_mem_nil _) (fun s9 => (fp_gb (fp_sm rfl))))))) (fp_gb (fp_sm rfl)))) (fun j147 h_j147 => (fp_ite (fp_bi (fr_H_isWord _ _) (List.forall_mem_nil _) (List.forall_mem_nil _) (fun r11 s10 => (fp_ite (h_j147 _) (fp_ite (fp_bv (fr_Pa_keep _ _) (by decide) (by decide) (fun s12 => (fp_bv (fr_Sc_letGo _ _ _ _) (by first | decide | simp [hz_r20]) (List.forall_mem_nil _) (fun s13 => (fp_gb (fp_sm rfl)))))) (h_j147 _))))) (h_j147 _))))) (fun j108 h_j108 => (fp_ite (fp_bi (fr_H_isWord _ _) (List.forall_mem_nil _) (List.forall_mem_nil _) (fun r15 s14 => (fp_ite (h_j108 _) (fp_bi (fr_Sc_isUp _ _ _) (List.forall_mem_nil _) (List.forall_mem_nil _) (fun r17 s16 => (fp_ite (h_j108 _) (fp_ite (h_j108 _) (fp_bv (fr_Pa_keep _ _) (by decide) (by decide) (fun s18 => (fp_bv (fr_Sc_say _ _ _ _) (by first | decide | simp [hz_r20]) (by first | decide | simp [hz_r20]) (fun s19 => (fp_bv (fr_Su_note _ _ _ _ _) (by decide) (by first | decide | simp [hz_r20]) (fun s20 => (fp_gb (fp_sm rfl))))))))))))))) (h_j108 _))))) (fun j31 h_j31 => (fp_ite (h_j31 _ _) (h_j31 _ _)))))))))
theorem fr_H_ask (v1 : Int32) (s0 : Sg) : fP prI [10, 11, 12, 13, 14, 15, 16, 17, 18, 64, 7, 8, 9] [(1, 6), (1, 7), (1, 12), (5, 1), (5, 2), (63, 3)] s0 (fH_ask v1 s0) := by
  unfold fH_ask
  exact (fp_bi (fr_H_isQuestion _ _) (List.forall_mem_nil _) (List.forall_mem_nil _) (fun r2 s1 => (fp_ite (fp_sm rfl) (fp_bv (fr_Pa_keep _ _) (by decide) (by decide) (fun s3 => (fp_bi (fr_Te_suits _ _ _ _) (List.forall_mem_nil _) (List.forall_mem_nil _) (fun r5 s4 => (fp_ptF (by decide) (fun s6 => (fp_j0 (fun s7 => (fp_j1 (fun b83_0 s8 => (fp_bv (fr_Su_note _ _ _ _ _) (by decide) (by first | decide | simp [hz_r20]) (fun s9 => (fp_ite (fp_sm rfl) (fp_sm rfl))))) (fun j83 h_j83 => (fp_ite (h_j83 _ _) (h_j83 _ _))))) (fun j66 h_j66 => (fp_ite (h_j66 _) (fp_ptF (by decide) (fun s10 => (h_j66 _)))))))))))))))
theorem fr_H_fits (v1 : Int32) (v2 : Int32) (s0 : Sg) : fP prI [] [(66, 7), (66, 8)] s0 (fH_fits v1 v2 s0) := by
  unfold fH_fits
  exact (fp_ite (fp_bi (fr_H_isWord _ _) (List.forall_mem_nil _) (List.forall_mem_nil _) (fun r9 s8 => (fp_ite (fp_sm rfl) (fp_bi (fr_Te_answered _ _ _) (List.forall_mem_nil _) (List.forall_mem_nil _) (fun r11 s10 => (fp_sm rfl)))))) (fp_bi (fr_H_within _ _ _ _) (List.forall_mem_nil _) (List.forall_mem_nil _) (fun r2 s1 => (fp_ite (fp_sm rfl) (fp_bi (fr_H_within _ _ _ _) (List.forall_mem_nil _) (List.forall_mem_nil _) (fun r4 s3 => (fp_ite (fp_sm rfl) (fp_ite (fp_bi (fr_Mu_bestWord _ _) (List.forall_mem_nil _) (List.forall_mem_nil _) (fun r7 s6 => (fp_sm rfl))) (fp_bv (fr_Mu_cover _ _) (List.forall_mem_nil _) (fun _ h => Or.inl h) (fun s5 => (fp_ite (fp_sm rfl) (fp_sm rfl))))))))))))
theorem fr_H_worths (s0 : Sg) : fP prI [] [] s0 (fH_worths s0) := by
  unfold fH_worths
  exact (fp_bi (fr_Mu_worthOfTwo _ _) (List.forall_mem_nil _) (List.forall_mem_nil _) (fun r2 s1 => (fp_sm rfl)))
theorem fr_H_game (v1 : Int32) (s0 : Sg) : fP prI [70] [] s0 (fH_game v1 s0) := by
  unfold fH_game
  exact (fp_bi (fr_H_within _ _ _ _) (List.forall_mem_nil _) (List.forall_mem_nil _) (fun r2 s1 => (fp_ite (fp_sm rfl) (fp_j1 (fun b27_0 s3 => (fp_bi (fr_Mu_openingMove _ _ _) (fun _ h => h) (List.forall_mem_nil _) (fun r5 s4 => (fp_sm rfl)))) (fun j27 h_j27 => (fp_ite (h_j27 _ _) (h_j27 _ _)))))))
theorem fr_H_undo (s0 : Sg) : fP prI [2] [(1, 1), (1, 2), (1, 3), (1, 4), (1, 5), (1, 6), (1, 7), (1, 8), (1, 9), (1, 10), (1, 11), (1, 12), (5, 2)] s0 (fH_undo s0) := by
  unfold fH_undo
  exact (fp_bi (fr_Pa_goBack _ _) (by first | decide | simp [hz_r20]) (by first | decide | simp [hz_r20]) (fun r2 s1 => (fp_gb (fp_sm rfl))))
theorem fr_J0_charAt_5068e (o0 : Nat) (v1 : Int32) (s0 : Sg) : fP prI [] [] s0 (fJ0_charAt_5068e o0 v1 s0) := by
  unfold fJ0_charAt_5068e
  exact (fp_bi (fr_J0_isLatin1_aae02 _ _) (List.forall_mem_nil _) (List.forall_mem_nil _) (fun r2 s1 => (fp_ite (fp_bi (fr_J2_charAt_3b067 _ _ _) (List.forall_mem_nil _) (List.forall_mem_nil _) (fun r4 s3 => (fp_gch (fp_sm rfl)))) (fp_bi (fr_J1_charAt_3b067 _ _ _) (List.forall_mem_nil _) (List.forall_mem_nil _) (fun r6 s5 => (fp_gch (fp_sm rfl)))))))
theorem fr_J0_indexOf_7cf53 (o0 : Nat) (v1 : Int32) (v2 : Int32) (s0 : Sg) : fP prI [] [] s0 (fJ0_indexOf_7cf53 o0 v1 v2 s0) := by
  unfold fJ0_indexOf_7cf53
  exact (fp_bi (fr_J0_isLatin1_aae02 _ _) (List.forall_mem_nil _) (List.forall_mem_nil _) (fun r2 s1 => (fp_ite (fp_bi (fr_J0_length_8abf5 _ _) (List.forall_mem_nil _) (List.forall_mem_nil _) (fun r4 s3 => (fp_bi (fr_J2_indexOf_4cfef _ _ _ _ _) (List.forall_mem_nil _) (List.forall_mem_nil _) (fun r6 s5 => (fp_sm rfl))))) (fp_bi (fr_J0_length_8abf5 _ _) (List.forall_mem_nil _) (List.forall_mem_nil _) (fun r8 s7 => (fp_bi (fr_J1_indexOf_4cfef _ _ _ _ _) (List.forall_mem_nil _) (List.forall_mem_nil _) (fun r10 s9 => (fp_sm rfl))))))))
theorem fr_Im_take (o1 : Nat) (o2 : Nat) (o3 : Nat) (o4 : Nat) (s0 : Sg) : fP prV [101, 73, 77, 78, 81, 83, 84, 87, 89, 91, 93, 95, 97, 99] [(100, 3), (71, 4), (72, 1), (72, 2), (72, 3), (72, 4), (72, 5), (72, 6), (72, 7), (72, 8), (72, 9), (72, 10), (72, 11), (72, 12), (74, 4), (75, 3), (76, 3), (80, 3), (82, 3), (85, 7), (85, 8), (85, 9), (86, 3), (88, 3), (90, 3), (92, 3), (94, 3), (96, 3), (98, 3)] s0 (fIm_take o1 o2 o3 o4 s0) := by
  unfold fIm_take
  exact (fp_bv (fr_Sc_become _ _ _) (by first | decide | simp [hz_r20]) (by first | decide | simp [hz_r20]) (fun s1 => (fp_bv (fr_Te_become _ _ _) (by first | decide | simp [hz_r20]) (by first | decide | simp [hz_r20]) (fun s2 => (fp_bv (fr_Tl_become _ _ _) (by first | decide | simp [hz_r20]) (by first | decide | simp [hz_r20]) (fun s3 => (fp_bv (fr_Ta_become _ _ _) (by first | decide | simp [hz_r20]) (by first | decide | simp [hz_r20]) (fun s4 => (fp_gb (fp_ptF (by decide) (fun s5 => (fp_sm rfl))))))))))))
theorem fr_Im_giveBack (o1 : Nat) (o2 : Nat) (o3 : Nat) (o4 : Nat) (s0 : Sg) : fP prV [(hz_rf (hz_rf (hz_rf o2 0) 0) 2), (hz_rf (hz_rf o2 0) 1), (hz_rf (hz_rf o2 1) 2), (hz_rf (hz_rf o2 2) 2), (hz_rf (hz_rf o3 0) 2), (hz_rf (hz_rf o3 1) 2), (hz_rf (hz_rf o3 2) 2), (hz_rf (hz_rf o3 3) 2), (hz_rf (hz_rf o3 4) 2), (hz_rf (hz_rf o3 5) 2), (hz_rf (hz_rf o3 6) 2), (hz_rf o1 0), (hz_rf o2 3), (hz_rf o4 2)] [((hz_rf (hz_rf o2 0) 0), 3), ((hz_rf o2 0), 3), ((hz_rf o2 1), 3), ((hz_rf o2 2), 3), ((hz_rf o3 0), 3), ((hz_rf o3 1), 3), ((hz_rf o3 2), 3), ((hz_rf o3 3), 3), ((hz_rf o3 4), 3), ((hz_rf o3 5), 3), ((hz_rf o3 6), 3), (o1, 1), (o1, 2), (o1, 3), (o1, 4), (o1, 5), (o1, 6), (o1, 7), (o1, 8), (o1, 9), (o1, 10), (o1, 11), (o1, 12), (o2, 4), (o3, 7), (o3, 8), (o3, 9), (o4, 3)] s0 (fIm_giveBack o1 o2 o3 o4 s0) := by
  unfold fIm_giveBack
  exact (fp_bv (fr_Sc_become _ _ _) (by first | decide | simp [hz_r20]) (by first | decide | simp [hz_r20]) (fun s1 => (fp_bv (fr_Te_become _ _ _) (by first | decide | simp [hz_r20]) (by first | decide | simp [hz_r20]) (fun s2 => (fp_bv (fr_Tl_become _ _ _) (by first | decide | simp [hz_r20]) (by first | decide | simp [hz_r20]) (fun s3 => (fp_bv (fr_Ta_become _ _ _) (by first | decide | simp [hz_r20]) (by first | decide | simp [hz_r20]) (fun s4 => (fp_sm rfl)))))))))
theorem fr_La_tells (o0 : Nat) (v1 : Int32) (o2 : Nat) (v3 : Int32) (s0 : Sg) : fP prI [(hz_rf o0 2)] [] s0 (fLa_tells o0 v1 o2 v3 s0) := by
  unfold fLa_tells
  exact (fp_j1 (fun b13_0 s1 => (fp_lq (fun q18 h_q18 u18 s2 => (fp_ite (fp_bi (fr_La_untold _ _ _ _) (List.forall_mem_nil _) (List.forall_mem_nil _) (fun r4 s3 => (fp_sm rfl))) (fp_bi (fr_Ta_tell _ _ _ _) (List.forall_mem_nil _) (List.forall_mem_nil _) (fun r6 s5 => (fp_bi (fr_Ta_tell _ _ _ _) (List.forall_mem_nil _) (List.forall_mem_nil _) (fun r8 s7 => (fp_bi (fr_Ta_tell _ _ _ _) (List.forall_mem_nil _) (List.forall_mem_nil _) (fun r10 s9 => (fp_j0 (fun s11 => (h_q18 _ _)) (fun j116 h_j116 => (fp_ite (fp_j0 (fun s12 => (fp_bi (fr_Ta_tell _ _ _ _) (List.forall_mem_nil _) (List.forall_mem_nil _) (fun r14 s13 => (fp_bi (fr_La_value _ _ _ _ _ _) (by first | decide | simp [hz_r20]) (List.forall_mem_nil _) (fun r16 s15 => (fp_bi (fr_J9_min_7cf53 _ _ _) (List.forall_mem_nil _) (List.forall_mem_nil _) (fun r18 s17 => (fp_bi (fr_J9_max_7cf53 _ _ _) (List.forall_mem_nil _) (List.forall_mem_nil _) (fun r20 s19 => (fp_sm rfl)))))))))) (fun j88 h_j88 => (fp_ite (h_j88 _) (fp_bi (fr_La_value _ _ _ _ _ _) (by first | decide | simp [hz_r20]) (List.forall_mem_nil _) (fun r22 s21 => (fp_ite (h_j116 _) (h_j88 _))))))) (h_j116 _)))))))))))))) (fun j13 h_j13 => (fp_ite (h_j13 _ _) (h_j13 _ _))))
theorem fr_Mu_wordsThatCould (s0 : Sg) : fP prI [] [] s0 (fMu_wordsThatCould s0) := by
  unfold fMu_wordsThatCould
  exact (fp_lq (fun q4 h_q4 u4 s1 => (fp_ite (fp_sm rfl) (fp_bi (fr_Mu_agrees _ _) (List.forall_mem_nil _) (List.forall_mem_nil _) (fun r3 s2 => (fp_j1 (fun a24_1 s4 => (h_q4 _ _)) (fun j24 h_j24 => (fp_ite (h_j24 _ _) (fp_nm (fun x5 => (h_j24 _ _)))))))))))
theorem fr_Mu_nextQuestion (s0 : Sg) : fP prI [] [] s0 (fMu_nextQuestion s0) := by
  unfold fMu_nextQuestion
  exact (fp_bi (fr_Mu_wordsThatCould _) (List.forall_mem_nil _) (List.forall_mem_nil _) (fun r2 s1 => (fp_bi (fr_J6_bitCount_0f7a4 _ _) (List.forall_mem_nil _) (List.forall_mem_nil _) (fun r4 s3 => (fp_lq (fun q20 h_q20 u20 s5 => (fp_ite (fp_sm rfl) (fp_ite (fp_sm rfl) (fp_bi (fr_Mu_manyRight _ _ _) (List.forall_mem_nil _) (List.forall_mem_nil _) (fun r7 s6 => (fp_bi (fr_J9_max_7cf53 _ _ _) (List.forall_mem_nil _) (List.forall_mem_nil _) (fun r9 s8 => (fp_j2 (fun a66_3 a66_4 s10 => (h_q20 _ _)) (fun j66 h_j66 => (fp_ite (h_j66 _ _ _) (h_j66 _ _ _))))))))))))))))
theorem fr_Mu_fewestWatches (v1 : Int32) (s0 : Sg) : fP prI [] [] s0 (fMu_fewestWatches v1 s0) := by
  unfold fMu_fewestWatches
  exact (fp_lq (fun q4 h_q4 u4 s1 => (fp_j0 (fun s2 => (fp_ite (fp_sm rfl) (fp_sm rfl))) (fun j42 h_j42 => (fp_ite (h_j42 _) (fp_ite (h_j42 _) (fp_bi (fr_Mu_furthest _ _) (List.forall_mem_nil _) (List.forall_mem_nil _) (fun r4 s3 => (fp_ite (h_q4 _ _) (fp_sm rfl))))))))))
theorem fr_Mu_stepsByAny (v1 : Int32) (v2 : Int32) (s0 : Sg) : fP prI [67] [] s0 (fMu_stepsByAny v1 v2 s0) := by
  unfold fMu_stepsByAny
  exact (fp_bv (fr_Mu_startAt _ _) (fun _ h => h) (List.forall_mem_nil _) (fun s1 => (fp_lq (fun q7 h_q7 u7 s2 => (fp_ite (fp_bi (fr_Mu_farOf _ _) (List.forall_mem_nil _) (List.forall_mem_nil _) (fun r4 s3 => (fp_sm rfl))) (fp_lq (fun q16 h_q16 u16 s5 => (fp_ite (h_q7 _ _) (fp_bi (fr_Ta_tell _ _ _ _) (List.forall_mem_nil _) (List.forall_mem_nil _) (fun r7 s6 => (fp_bi (fr_Mu_farOf _ _) (List.forall_mem_nil _) (List.forall_mem_nil _) (fun r9 s8 => (fp_j0 (fun s10 => (h_q16 _ _)) (fun j82 h_j82 => (fp_ite (fp_bi (fr_Ta_tell _ _ _ _) (List.forall_mem_nil _) (List.forall_mem_nil _) (fun r12 s11 => (fp_bi (fr_Mu_leadsTo _ _ _) (List.forall_mem_nil _) (List.forall_mem_nil _) (fun r14 s13 => (fp_bv (fr_Mu_reach _ _ _) (fun _ h => h) (List.forall_mem_nil _) (fun s15 => (h_j82 _))))))) (h_j82 _))))))))))))))))
theorem fr_Mu_reachLikes (v1 : Int32) (v2 : Int32) (s0 : Sg) : fP prV [67] [] s0 (fMu_reachLikes v1 v2 s0) := by
  unfold fMu_reachLikes
  exact (fp_lq (fun q2 h_q2 u2 s1 => (fp_ite (fp_sm rfl) (fp_bi (fr_Mu_oneApart _ _ _) (List.forall_mem_nil _) (List.forall_mem_nil _) (fun r3 s2 => (fp_j0 (fun s4 => (h_q2 _ _)) (fun j23 h_j23 => (fp_ite (h_j23 _) (fp_bv (fr_Mu_reach _ _ _) (fun _ h => h) (List.forall_mem_nil _) (fun s5 => (h_j23 _)))))))))))
theorem fr_Mu_mostSpeakers (s0 : Sg) : fP prI [68, 69] [(66, 6)] s0 (fMu_mostSpeakers s0) := by
  unfold fMu_mostSpeakers
  exact (fp_ptF (by decide) (fun s1 => (fp_bv (fr_Mu_seat _ _ _ _ _ _) (fun _ h => h) (fun _ h => Or.inl h) (fun s2 => (fp_sm rfl)))))
theorem fr_Mu_speakerAt (v1 : Int32) (s0 : Sg) : fP prI [68, 69] [(66, 6)] s0 (fMu_speakerAt v1 s0) := by
  unfold fMu_speakerAt
  exact (fp_bi (fr_Mu_mostSpeakers _) (fun _ h => h) (fun _ h => Or.inl h) (fun r2 s1 => (fp_bi (fr_H_within _ _ _ _) (List.forall_mem_nil _) (List.forall_mem_nil _) (fun r4 s3 => (fp_ite (fp_sm rfl) (fp_gd (fp_sm rfl)))))))
theorem fr_Mu_heardPrices (v1 : Int32) (v2 : Int32) (s0 : Sg) : fP prI [] [] s0 (fMu_heardPrices v1 v2 s0) := by
  unfold fMu_heardPrices
  exact (fp_lq (fun q5 h_q5 u5 s1 => (fp_ite (fp_sm rfl) (fp_bi (fr_Mu_isHeard _ _ _) (List.forall_mem_nil _) (List.forall_mem_nil _) (fun r3 s2 => (fp_j1 (fun a54_3 s4 => (h_q5 _ _)) (fun j54 h_j54 => (fp_ite (h_j54 _ _) (fp_j1 (fun b52_0 s5 => (h_j54 _ _)) (fun j52 h_j52 => (fp_ite (h_j52 _ _) (fp_bi (fr_Ta_tell _ _ _ _) (List.forall_mem_nil _) (List.forall_mem_nil _) (fun r7 s6 => (h_j52 _ _))))))))))))))
theorem fr_Re_readPlainLine (v1 : Int32) (v2 : Int32) (s0 : Sg) : fP prI [43, 45, 46] [(30, 3), (30, 4), (30, 5), (31, 6), (31, 7), (31, 8), (31, 9), (36, 4), (42, 3), (44, 3)] s0 (fRe_readPlainLine v1 v2 s0) := by
  unfold fRe_readPlainLine
  exact (fp_ite (fp_bi (fr_Re_readClimb _ _) (by decide) (by decide) (fun r6 s5 => (fp_gb (fp_sm rfl)))) (fp_ite (fp_bi (fr_Re_readSun _) (by decide) (by decide) (fun r4 s3 => (fp_gb (fp_sm rfl)))) (fp_bi (fr_Re_readSuit _) (by decide) (by decide) (fun r2 s1 => (fp_gb (fp_sm rfl))))))
theorem fr_Re_readCondition (s0 : Sg) : fP prI [40, 47] [(30, 3), (30, 4), (30, 5), (30, 6), (30, 7), (31, 6), (31, 7), (31, 8), (31, 9), (37, 3)] s0 (fRe_readCondition s0) := by
  unfold fRe_readCondition
  exact (fp_ptF (by decide) (fun s1 => (fp_ptF (by decide) (fun s2 => (fp_lq (fun q14 h_q14 u14 s3 => (fp_j0 (fun s4 => (fp_bv (fr_Re_release _ _) (by decide) (by decide) (fun s5 => (fp_j0 (fun s6 => (fp_gb (fp_sm rfl))) (fun j202 h_j202 => (fp_ite (h_j202 _) (fp_bi (fr_Re_wrong _ _) (List.forall_mem_nil _) (by decide) (fun r8 s7 => (fp_ite (fp_gb (fp_sm rfl)) (h_j202 _)))))))))) (fun j180 h_j180 => (fp_ite (h_j180 _) (fp_ite (h_j180 _) (fp_lq (fun q25 h_q25 u25 s9 => (fp_j0 (fun s10 => (fp_ite (fp_ptF (by decide) (fun s11 => (fp_bv (fr_Re_await _ _) (by decide) (by decide) (fun s12 => (h_q25 _ _))))) (fp_bi (fr_Re_wrong _ _) (List.forall_mem_nil _) (by decide) (fun r14 s13 => (fp_gb (fp_sm rfl)))))) (fun j50 h_j50 => (fp_ite (h_j50 _) (fp_ite (h_j50 _) (fp_bi (fr_Re_readSum _) (by decide) (by decide) (fun r16 s15 => (fp_ite (fp_gb (fp_sm rfl)) (fp_bi (fr_Re_readComparison _) (by decide) (by decide) (fun r18 s17 => (fp_ite (fp_gb (fp_sm rfl)) (fp_bi (fr_Re_readSum _) (by decide) (by decide) (fun r20 s19 => (fp_ite (fp_gb (fp_sm rfl)) (fp_bv (fr_Re_closeBrackets _) (by decide) (by decide) (fun s21 => (fp_j1 (fun b147_0 s22 => (fp_j0 (fun s23 => (h_q14 _ _)) (fun j174 h_j174 => (fp_ite (h_j174 _) (fp_bv (fr_Re_release _ _) (by decide) (by decide) (fun s24 => (fp_bv (fr_Re_await _ _) (by decide) (by decide) (fun s25 => (h_j174 _))))))))) (fun j147 h_j147 => (fp_j0 (fun s26 => (h_j147 _ _)) (fun j142 h_j142 => (fp_ite (h_j142 _) (fp_ite (h_j142 _) (h_j147 _ _))))))))))))))))))))))))))))))))))
theorem fr_Su_climb (o1 : Nat) (v2 : Int32) (s0 : Sg) : fP prV [(hz_rf o1 0), 24] [] s0 (fSu_climb o1 v2 s0) := by
  unfold fSu_climb
  exact (fp_bi (fr_Sc_tell _ _ _ _) (List.forall_mem_nil _) (List.forall_mem_nil _) (fun r2 s1 => (fp_ite (fp_bv (fr_Sc_changeBreath _ _ _ _) (by first | decide | simp [hz_r20]) (List.forall_mem_nil _) (fun s13 => (fp_sm rfl))) (fp_bi (fr_La_tells _ _ _ _ _) (by first | decide | simp [hz_r20]) (List.forall_mem_nil _) (fun r4 s3 => (fp_bi (fr_La_tells _ _ _ _ _) (by first | decide | simp [hz_r20]) (List.forall_mem_nil _) (fun r6 s5 => (fp_bi (fr_Sc_tell _ _ _ _) (List.forall_mem_nil _) (List.forall_mem_nil _) (fun r8 s7 => (fp_bi (fr_J9_min_7cf53 _ _ _) (List.forall_mem_nil _) (List.forall_mem_nil _) (fun r10 s9 => (fp_bv (fr_Sc_put _ _ _ _ _) (by first | decide | simp [hz_r20]) (List.forall_mem_nil _) (fun s11 => (fp_bv (fr_Sc_changeBreath _ _ _ _) (by first | decide | simp [hz_r20]) (List.forall_mem_nil _) (fun s12 => (fp_sm rfl))))))))))))))))
theorem fr_Su_speaks (o1 : Nat) (v2 : Int32) (v3 : Int32) (s0 : Sg) : fP prI [(hz_rf o1 0), 24, 64] [(63, 3), (o1, 4), (o1, 5), (o1, 11), (o1, 12)] s0 (fSu_speaks o1 v2 v3 s0) := by
  unfold fSu_speaks
  exact (fp_bi (fr_La_tells _ _ _ _ _) (by first | decide | simp [hz_r20]) (List.forall_mem_nil _) (fun r2 s1 => (fp_bi (fr_La_tells _ _ _ _ _) (by first | decide | simp [hz_r20]) (List.forall_mem_nil _) (fun r4 s3 => (fp_j1 (fun b67_0 s5 => (fp_ite (fp_bv (fr_Sc_changeBreath _ _ _ _) (by first | decide | simp [hz_r20]) (List.forall_mem_nil _) (fun s11 => (fp_gb (fp_sm rfl)))) (fp_bi (fr_Sc_tell _ _ _ _) (List.forall_mem_nil _) (List.forall_mem_nil _) (fun r7 s6 => (fp_bv (fr_Sc_say _ _ _ _) (by first | decide | simp [hz_r20]) (by first | decide | simp [hz_r20]) (fun s8 => (fp_bv (fr_Sc_changeBreath _ _ _ _) (by first | decide | simp [hz_r20]) (List.forall_mem_nil _) (fun s9 => (fp_ite (fp_gb (fp_sm rfl)) (fp_bv (fr_Su_note _ _ _ _ _) (by first | decide | simp [hz_r20]) (by first | decide | simp [hz_r20]) (fun s10 => (fp_gb (fp_sm rfl))))))))))))) (fun j67 h_j67 => (fp_ite (fp_ite (h_j67 _ _) (h_j67 _ _)) (fp_bi (fr_Sc_draw _ _ _) (List.forall_mem_nil _) (by first | decide | simp [hz_r20]) (fun r13 s12 => (fp_ite (h_j67 _ _) (h_j67 _ _)))))))))))
theorem fr_Su_fallNight (o1 : Nat) (v2 : Int32) (s0 : Sg) : fP prV [(hz_rf o1 0), 64] [(63, 3), (o1, 2), (o1, 3), (o1, 12)] s0 (fSu_fallNight o1 v2 s0) := by
  unfold fSu_fallNight
  exact (fp_ptF (by simp) (fun s1 => (fp_ptF (by simp) (fun s2 => (fp_lq (fun q18 h_q18 u18 s3 => (fp_ite (fp_ite (fp_sm rfl) (fp_bv (fr_Su_note _ _ _ _ _) (by first | decide | simp [hz_r20]) (by first | decide | simp [hz_r20]) (fun s4 => (fp_sm rfl)))) (fp_bv (fr_Sc_sendHome _ _ _) (by first | decide | simp [hz_r20]) (List.forall_mem_nil _) (fun s5 => (fp_bv (fr_Sc_put _ _ _ _ _) (by first | decide | simp [hz_r20]) (List.forall_mem_nil _) (fun s6 => (h_q18 _ _))))))))))))
theorem fr_To_stands (o1 : Nat) (v2 : Int32) (v3 : Int32) (v4 : Int32) (s0 : Sg) : fP prI [] [] s0 (fTo_stands o1 v2 v3 v4 s0) := by
  unfold fTo_stands
  exact (fp_lq (fun q3 h_q3 u3 s1 => (fp_ite (fp_gb (fp_sm rfl)) (fp_ite (fp_gb (fp_sm rfl)) (fp_bi (fr_J0_length_8abf5 _ _) (List.forall_mem_nil _) (List.forall_mem_nil _) (fun r3 s2 => (fp_ite (fp_gb (fp_sm rfl)) (fp_bi (fr_J0_charAt_5068e _ _ _) (List.forall_mem_nil _) (List.forall_mem_nil _) (fun r5 s4 => (fp_bi (fr_To_signAt _ _) (List.forall_mem_nil _) (List.forall_mem_nil _) (fun r7 s6 => (fp_ite (h_q3 _ _) (fp_gb (fp_sm rfl))))))))))))))
theorem fr_H_of (v1 : Int32) (v2 : Int32) (s0 : Sg) : fP prI [24] [] s0 (fH_of v1 v2 s0) := by
  unfold fH_of
  exact (fp_bi (fr_Sc_has _ _ _) (List.forall_mem_nil _) (List.forall_mem_nil _) (fun r2 s1 => (fp_ite (fp_sm rfl) (fp_bi (fr_H_within _ _ _ _) (List.forall_mem_nil _) (List.forall_mem_nil _) (fun r4 s3 => (fp_ite (fp_sm rfl) (fp_ite (fp_bi (fr_La_tells _ _ _ _ _) (by first | decide | simp [hz_r20]) (List.forall_mem_nil _) (fun r6 s5 => (fp_sm rfl))) (fp_bi (fr_Sc_tell _ _ _ _) (List.forall_mem_nil _) (List.forall_mem_nil _) (fun r8 s7 => (fp_sm rfl))))))))))
theorem fr_H_earliest (v1 : Int32) (s0 : Sg) : fP prI [24, 4] [(3, 1), (3, 2), (3, 3), (3, 4), (3, 5), (3, 6), (3, 7), (3, 8), (3, 9), (3, 10), (3, 11), (3, 12)] s0 (fH_earliest v1 s0) := by
  unfold fH_earliest
  exact (fp_bi (fr_Sc_has _ _ _) (List.forall_mem_nil _) (List.forall_mem_nil _) (fun r2 s1 => (fp_ite (fp_sm rfl) (fp_bv (fr_Sc_become _ _ _) (by first | decide | simp [hz_r20]) (by first | decide | simp [hz_r20]) (fun s3 => (fp_lq (fun q26 h_q26 u26 s4 => (fp_ite (fp_sm rfl) (fp_bi (fr_Sc_isUp _ _ _) (List.forall_mem_nil _) (List.forall_mem_nil _) (fun r6 s5 => (fp_ite (fp_bv (fr_Su_climb _ _ _) (by first | decide | simp [hz_r20]) (List.forall_mem_nil _) (fun s7 => (h_q26 _ _))) (fp_sm rfl))))))))))))
theorem fr_H_could (v1 : Int32) (s0 : Sg) : fP prI [] [] s0 (fH_could v1 s0) := by
  unfold fH_could
  exact (fp_ite (fp_bi (fr_Mu_wordsThatCould _) (List.forall_mem_nil _) (List.forall_mem_nil _) (fun r4 s3 => (fp_sm rfl))) (fp_ite (fp_bi (fr_Mu_nextQuestion _) (List.forall_mem_nil _) (List.forall_mem_nil _) (fun r2 s1 => (fp_sm rfl))) (fp_sm rfl)))
theorem fr_H_guard (v1 : Int32) (v2 : Int32) (s0 : Sg) : fP prI [] [] s0 (fH_guard v1 v2 s0) := by
  unfold fH_guard
  exact (fp_bi (fr_H_within _ _ _ _) (List.forall_mem_nil _) (List.forall_mem_nil _) (fun r2 s1 => (fp_ite (fp_sm rfl) (fp_bi (fr_H_within _ _ _ _) (List.forall_mem_nil _) (List.forall_mem_nil _) (fun r4 s3 => (fp_ite (fp_sm rfl) (fp_bi (fr_Mu_fewestWatches _ _) (List.forall_mem_nil _) (List.forall_mem_nil _) (fun r6 s5 => (fp_ite (fp_sm rfl) (fp_ite (fp_sm rfl) (fp_ite (fp_sm rfl) (fp_sm rfl))))))))))))
theorem fr_H_down (v1 : Int32) (v2 : Int32) (v3 : Int32) (s0 : Sg) : fP prI [67] [] s0 (fH_down v1 v2 v3 s0) := by
  unfold fH_down
  exact (fp_bi (fr_H_within _ _ _ _) (List.forall_mem_nil _) (List.forall_mem_nil _) (fun r2 s1 => (fp_ite (fp_sm rfl) (fp_bi (fr_H_within _ _ _ _) (List.forall_mem_nil _) (List.forall_mem_nil _) (fun r4 s3 => (fp_ite (fp_sm rfl) (fp_ite (fp_bi (fr_Mu_stepsByAny _ _ _) (fun _ h => h) (List.forall_mem_nil _) (fun r10 s9 => (fp_sm rfl))) (fp_bi (fr_H_isWord _ _) (List.forall_mem_nil _) (List.forall_mem_nil _) (fun r6 s5 => (fp_ite (fp_sm rfl) (fp_bi (fr_Mu_stepsBy _ _ _ _) (List.forall_mem_nil _) (List.forall_mem_nil _) (fun r8 s7 => (fp_sm rfl)))))))))))))
theorem fr_H_council (v1 : Int32) (s0 : Sg) : fP prI [68, 69] [(66, 6)] s0 (fH_council v1 s0) := by
  unfold fH_council
  exact (fp_j1 (fun b30_0 s1 => (fp_j0 (fun s2 => (fp_ite (fp_bi (fr_Mu_mostSpeakers _) (fun _ h => h) (fun _ h => Or.inl h) (fun r6 s5 => (fp_sm rfl))) (fp_bi (fr_Mu_speakerAt _ _) (fun _ h => h) (fun _ h => Or.inl h) (fun r4 s3 => (fp_sm rfl))))) (fun j41 h_j41 => (fp_ite (h_j41 _) (fp_ite (fp_sm rfl) (h_j41 _)))))) (fun j30 h_j30 => (fp_j0 (fun s7 => (h_j30 _ _)) (fun j29 h_j29 => (fp_ite (h_j29 _) (fp_ite (h_j29 _) (h_j30 _ _)))))))
theorem fr_H_prices (v1 : Int32) (v2 : Int32) (s0 : Sg) : fP prI [] [] s0 (fH_prices v1 v2 s0) := by
  unfold fH_prices
  exact (fp_bi (fr_H_within _ _ _ _) (List.forall_mem_nil _) (List.forall_mem_nil _) (fun r2 s1 => (fp_ite (fp_sm rfl) (fp_bi (fr_H_within _ _ _ _) (List.forall_mem_nil _) (List.forall_mem_nil _) (fun r4 s3 => (fp_ite (fp_sm rfl) (fp_j1 (fun b35_0 s5 => (fp_bi (fr_Mu_heardPrices _ _ _) (List.forall_mem_nil _) (List.forall_mem_nil _) (fun r7 s6 => (fp_sm rfl)))) (fun j35 h_j35 => (fp_ite (h_j35 _ _) (h_j35 _ _))))))))))
theorem fr_H_image (v1 : Int32) (s0 : Sg) : fP prI [101, 2, 22, 23, 26, 28, 29, 50, 52, 54, 56, 58, 60, 62, 64, 73, 77, 78, 81, 83, 84, 87, 89, 91, 93, 95, 97, 99] [(1, 1), (1, 2), (1, 3), (1, 4), (1, 5), (1, 6), (1, 7), (1, 8), (1, 9), (1, 10), (1, 11), (1, 12), (100, 3), (19, 4), (20, 3), (21, 3), (25, 3), (27, 3), (48, 7), (48, 8), (48, 9), (49, 3), (5, 2), (51, 3), (53, 3), (55, 3), (57, 3), (59, 3), (61, 3), (63, 3), (71, 4), (72, 1), (72, 2), (72, 3), (72, 4), (72, 5), (72, 6), (72, 7), (72, 8), (72, 9), (72, 10), (72, 11), (72, 12), (74, 4), (75, 3), (76, 3), (80, 3), (82, 3), (85, 7), (85, 8), (85, 9), (86, 3), (88, 3), (90, 3), (92, 3), (94, 3), (96, 3), (98, 3)] s0 (fH_image v1 s0) := by
  unfold fH_image
  exact (fp_ite (fp_ite (fp_gb (fp_sm rfl)) (fp_bv (fr_Im_giveBack _ _ _ _ _) (by first | decide | simp [hz_r20]) (by first | decide | simp [hz_r20]) (fun s1 => (fp_bv (fr_Pa_forget _) (List.forall_mem_nil _) (by decide) (fun s2 => (fp_gb (fp_sm rfl))))))) (fp_bv (fr_Im_take _ _ _ _ _) (by decide) (by decide) (fun s3 => (fp_gb (fp_sm rfl)))))
theorem fr_J0_indexOf_0f7a4 (o0 : Nat) (v1 : Int32) (s0 : Sg) : fP prI [] [] s0 (fJ0_indexOf_0f7a4 o0 v1 s0) := by
  unfold fJ0_indexOf_0f7a4
  exact (fp_bi (fr_J0_indexOf_7cf53 _ _ _ _) (List.forall_mem_nil _) (List.forall_mem_nil _) (fun r2 s1 => (fp_sm rfl)))
theorem fr_Mu_goOverFrom (v1 : Int32) (s0 : Sg) : fP prV [67] [] s0 (fMu_goOverFrom v1 s0) := by
  unfold fMu_goOverFrom
  exact (fp_bv (fr_Mu_startAt _ _) (fun _ h => h) (List.forall_mem_nil _) (fun s1 => (fp_lq (fun q7 h_q7 u7 s2 => (fp_ite (fp_sm rfl) (fp_lq (fun q15 h_q15 u15 s3 => (fp_ite (h_q7 _ _) (fp_bi (fr_Mu_farOf _ _) (List.forall_mem_nil _) (List.forall_mem_nil _) (fun r5 s4 => (fp_j0 (fun s6 => (h_q15 _ _)) (fun j38 h_j38 => (fp_ite (fp_bv (fr_Mu_reachLikes _ _ _) (fun _ h => h) (List.forall_mem_nil _) (fun s7 => (h_j38 _))) (h_j38 _))))))))))))))
theorem fr_Re_readLawLine (s0 : Sg) : fP prI [39, 40, 47] [(30, 3), (30, 4), (30, 5), (30, 6), (30, 7), (31, 6), (31, 7), (31, 8), (31, 9), (37, 3), (38, 3)] s0 (fRe_readLawLine s0) := by
  unfold fRe_readLawLine
  exact (fp_bv (fr_To_advance _) (List.forall_mem_nil _) (by decide) (fun s1 => (fp_bi (fr_Re_readSum _) (by decide) (by decide) (fun r3 s2 => (fp_ite (fp_gb (fp_sm rfl)) (fp_j0 (fun s4 => (fp_bi (fr_Ta_add _ _ _ _ _ _ _) (by first | decide | simp [hz_r20]) (by first | decide | simp [hz_r20]) (fun r6 s5 => (fp_gb (fp_sm rfl))))) (fun j79 h_j79 => (fp_ite (fp_bv (fr_To_advance _) (List.forall_mem_nil _) (by decide) (fun s7 => (fp_bi (fr_Re_readCondition _) (by decide) (by decide) (fun r9 s8 => (fp_ite (fp_gb (fp_sm rfl)) (h_j79 _)))))) (h_j79 _)))))))))
theorem fr_Su_pass (o1 : Nat) (v2 : Int32) (s0 : Sg) : fP prI [(hz_rf o1 0), 24, 64] [(63, 3), (o1, 2), (o1, 3), (o1, 4), (o1, 5), (o1, 8), (o1, 9), (o1, 10), (o1, 11), (o1, 12)] s0 (fSu_pass o1 v2 s0) := by
  unfold fSu_pass
  exact (fp_j0 (fun s1 => (fp_bv (fr_Su_letClimbersGo _ _) (by first | decide | simp [hz_r20]) (List.forall_mem_nil _) (fun s2 => (fp_lq (fun q22 h_q22 u22 s3 => (fp_j0 (fun s4 => (fp_j0 (fun s5 => (fp_bv (fr_Sc_turnClock _ _) (List.forall_mem_nil _) (by first | decide | simp [hz_r20]) (fun s6 => (fp_sm rfl)))) (fun j112 h_j112 => (fp_ite (fp_bv (fr_Su_fallNight _ _ _) (by first | decide | simp [hz_r20]) (by first | decide | simp [hz_r20]) (fun s7 => (h_j112 _))) (h_j112 _))))) (fun j95 h_j95 => (fp_ite (h_j95 _) (fp_ite (h_j95 _) (fp_bi (fr_Sc_tell _ _ _ _) (List.forall_mem_nil _) (List.forall_mem_nil _) (fun r9 s8 => (fp_j1 (fun a89_3 s10 => (h_q22 _ _)) (fun j89 h_j89 => (fp_ite (fp_bi (fr_Sc_isUp _ _ _) (List.forall_mem_nil _) (List.forall_mem_nil _) (fun r12 s11 => (fp_ite (fp_bv (fr_Su_climb _ _ _) (by first | decide | simp [hz_r20]) (List.forall_mem_nil _) (fun s15 => (h_j89 _ _))) (fp_bi (fr_Su_speaks _ _ _ _) (by first | decide | simp [hz_r20]) (by first | decide | simp [hz_r20]) (fun r14 s13 => (fp_ite (h_j89 _ _) (h_j89 _ _))))))) (h_j89 _ _))))))))))))))) (fun j12 h_j12 => (fp_ite (fp_bv (fr_Su_putSunset _ _) (List.forall_mem_nil _) (by first | decide | simp [hz_r20]) (fun s16 => (h_j12 _))) (h_j12 _))))
theorem fr_To_keywordKind (o1 : Nat) (v2 : Int32) (v3 : Int32) (s0 : Sg) : fP prI [] [] s0 (fTo_keywordKind o1 v2 v3 s0) := by
  unfold fTo_keywordKind
  exact (fp_lq (fun q9 h_q9 u9 s1 => (fp_bi (fr_J0_length_8abf5 _ _) (List.forall_mem_nil _) (List.forall_mem_nil _) (fun r3 s2 => (fp_ite (fp_sm rfl) (fp_bi (fr_J0_length_8abf5 _ _) (List.forall_mem_nil _) (List.forall_mem_nil _) (fun r5 s4 => (fp_j2 (fun a77_4 a77_5 s6 => (h_q9 _ _)) (fun j77 h_j77 => (fp_j0 (fun s7 => (fp_j0 (fun s8 => (h_j77 _ _ _)) (fun j68 h_j68 => (fp_ite (fp_bi (fr_To_stands _ _ _ _ _) (List.forall_mem_nil _) (List.forall_mem_nil _) (fun r10 s9 => (fp_ite (h_j68 _) (fp_sm rfl)))) (h_j68 _))))) (fun j38 h_j38 => (fp_ite (h_j38 _) (fp_bi (fr_J0_charAt_5068e _ _ _) (List.forall_mem_nil _) (List.forall_mem_nil _) (fun r12 s11 => (fp_ite (h_j38 _) (h_j77 _ _ _))))))))))))))))
theorem fr_H_minutes (v1 : Int32) (s0 : Sg) : fP prI [10, 11, 12, 13, 14, 15, 16, 17, 18, 2, 24, 64, 7, 8, 9] [(1, 2), (1, 3), (1, 4), (1, 5), (1, 8), (1, 9), (1, 10), (1, 11), (1, 12), (5, 1), (5, 2), (63, 3)] s0 (fH_minutes v1 s0) := by
  unfold fH_minutes
  exact (fp_bi (fr_H_within _ _ _ _) (List.forall_mem_nil _) (List.forall_mem_nil _) (fun r2 s1 => (fp_ite (fp_sm rfl) (fp_ite (fp_lq (fun q31 h_q31 u31 s3 => (fp_ite (fp_sm rfl) (fp_bv (fr_Pa_keep _ _) (by decide) (by decide) (fun s4 => (fp_bi (fr_Su_pass _ _ _) (by first | decide | simp [hz_r20]) (by first | decide | simp [hz_r20]) (fun r6 s5 => (h_q31 _ _)))))))) (fp_sm rfl)))))
theorem fr_H_goes (v1 : Int32) (v2 : Int32) (s0 : Sg) : fP prI [24, 4, 64] [(3, 1), (3, 2), (3, 3), (3, 4), (3, 5), (3, 6), (3, 7), (3, 8), (3, 9), (3, 10), (3, 11), (3, 12), (63, 3)] s0 (fH_goes v1 v2 s0) := by
  unfold fH_goes
  exact (fp_bi (fr_H_within _ _ _ _) (List.forall_mem_nil _) (List.forall_mem_nil _) (fun r2 s1 => (fp_ite (fp_sm rfl) (fp_bi (fr_H_within _ _ _ _) (List.forall_mem_nil _) (List.forall_mem_nil _) (fun r4 s3 => (fp_ite (fp_sm rfl) (fp_bv (fr_Sc_become _ _ _) (by first | decide | simp [hz_r20]) (by first | decide | simp [hz_r20]) (fun s5 => (fp_lq (fun q35 h_q35 u35 s6 => (fp_ite (fp_ite (fp_sm rfl) (fp_ite (fp_sm rfl) (fp_ite (fp_bi (fr_Sc_manyUp _ _) (List.forall_mem_nil _) (List.forall_mem_nil _) (fun r10 s9 => (fp_sm rfl))) (fp_bi (fr_Sc_allBreath _ _) (List.forall_mem_nil _) (List.forall_mem_nil _) (fun r8 s7 => (fp_sm rfl)))))) (fp_bi (fr_Su_pass _ _ _) (by first | decide | simp [hz_r20]) (by first | decide | simp [hz_r20]) (fun r12 s11 => (h_q35 _ _))))))))))))))
theorem fr_H_keeps (v1 : Int32) (s0 : Sg) : fP prI [24, 4, 64] [(3, 1), (3, 2), (3, 3), (3, 4), (3, 5), (3, 6), (3, 7), (3, 8), (3, 9), (3, 10), (3, 11), (3, 12), (63, 3)] s0 (fH_keeps v1 s0) := by
  unfold fH_keeps
  exact (fp_bi (fr_H_within _ _ _ _) (List.forall_mem_nil _) (List.forall_mem_nil _) (fun r2 s1 => (fp_ite (fp_sm rfl) (fp_bv (fr_Sc_become _ _ _) (by first | decide | simp [hz_r20]) (by first | decide | simp [hz_r20]) (fun s3 => (fp_lq (fun q27 h_q27 u27 s4 => (fp_j0 (fun s5 => (fp_ite (fp_sm rfl) (fp_ite (fp_sm rfl) (fp_bi (fr_Sc_tell _ _ _ _) (List.forall_mem_nil _) (List.forall_mem_nil _) (fun r7 s6 => (fp_sm rfl)))))) (fun j83 h_j83 => (fp_ite (h_j83 _) (fp_ite (fp_bi (fr_Su_pass _ _ _) (by first | decide | simp [hz_r20]) (by first | decide | simp [hz_r20]) (fun r9 s8 => (fp_j1 (fun b76_0 s10 => (h_q27 _ _)) (fun j76 h_j76 => (fp_ite (h_j76 _ _) (h_j76 _ _)))))) (h_j83 _))))))))))))
theorem fr_Mu_stepsOver (v1 : Int32) (v2 : Int32) (s0 : Sg) : fP prI [67] [] s0 (fMu_stepsOver v1 v2 s0) := by
  unfold fMu_stepsOver
  exact (fp_bv (fr_Mu_goOverFrom _ _) (fun _ h => h) (List.forall_mem_nil _) (fun s1 => (fp_bi (fr_Mu_farOf _ _) (List.forall_mem_nil _) (List.forall_mem_nil _) (fun r3 s2 => (fp_sm rfl)))))
theorem fr_Mu_reachedFrom (v1 : Int32) (s0 : Sg) : fP prI [67] [] s0 (fMu_reachedFrom v1 s0) := by
  unfold fMu_reachedFrom
  exact (fp_bv (fr_Mu_goOverFrom _ _) (fun _ h => h) (List.forall_mem_nil _) (fun s1 => (fp_lq (fun q9 h_q9 u9 s2 => (fp_ite (fp_sm rfl) (fp_bi (fr_Mu_farOf _ _) (List.forall_mem_nil _) (List.forall_mem_nil _) (fun r4 s3 => (fp_j1 (fun a26_2 s5 => (h_q9 _ _)) (fun j26 h_j26 => (fp_ite (h_j26 _ _) (h_j26 _ _)))))))))))
theorem fr_To_scan (o1 : Nat) (s0 : Sg) : fP prV [33, 34, 35] [(31, 5), (31, 6), (31, 7), (31, 8), (31, 9)] s0 (fTo_scan o1 s0) := by
  unfold fTo_scan
  exact (fp_ptF (by decide) (fun s1 => (fp_lq (fun q7 h_q7 u7 s2 => (fp_ite (fp_bv (fr_To_addToken _ _ _ _) (fun _ h => h) (by decide) (fun s3 => (fp_ptF (by decide) (fun s4 => (fp_bv (fr_To_advance _) (List.forall_mem_nil _) (by decide) (fun s5 => (fp_sm rfl))))))) (fp_bi (fr_To_signAt _ _) (List.forall_mem_nil _) (List.forall_mem_nil _) (fun r7 s6 => (fp_bi (fr_To_isLetter _ _) (List.forall_mem_nil _) (List.forall_mem_nil _) (fun r9 s8 => (fp_j1 (fun a127_4 s10 => (h_q7 _ _)) (fun j127 h_j127 => (fp_ite (fp_bi (fr_To_isDigit _ _) (List.forall_mem_nil _) (List.forall_mem_nil _) (fun r12 s11 => (fp_ite (fp_bi (fr_To_isBlank _ _) (List.forall_mem_nil _) (List.forall_mem_nil _) (fun r14 s13 => (fp_ite (fp_bi (fr_J0_indexOf_0f7a4 _ _ _) (List.forall_mem_nil _) (List.forall_mem_nil _) (fun r16 s15 => (fp_j1 (fun b122_0 s17 => (fp_bv (fr_To_addToken _ _ _ _) (fun _ h => h) (by decide) (fun s18 => (h_j127 _ _)))) (fun j122 h_j122 => (fp_ite (h_j122 _ _) (h_j122 _ _)))))) (h_j127 _ _)))) (fp_bi (fr_To_behindDigits _ _) (List.forall_mem_nil _) (List.forall_mem_nil _) (fun r20 s19 => (fp_j1 (fun b85_0 s21 => (fp_bi (fr_To_numberAt _ _ _) (List.forall_mem_nil _) (List.forall_mem_nil _) (fun r23 s22 => (fp_bv (fr_To_addToken _ _ _ _) (fun _ h => h) (by decide) (fun s24 => (h_j127 _ _)))))) (fun j85 h_j85 => (fp_ite (h_j85 _ _) (h_j85 _ _))))))))) (fp_bi (fr_To_behindLetters _ _) (List.forall_mem_nil _) (List.forall_mem_nil _) (fun r26 s25 => (fp_bi (fr_To_keywordKind _ _ _ _) (List.forall_mem_nil _) (List.forall_mem_nil _) (fun r28 s27 => (fp_bv (fr_To_addToken _ _ _ _) (fun _ h => h) (by decide) (fun s29 => (h_j127 _ _)))))))))))))))))))
theorem fr_H_over (v1 : Int32) (v2 : Int32) (s0 : Sg) : fP prI [67] [] s0 (fH_over v1 v2 s0) := by
  unfold fH_over
  exact (fp_bi (fr_H_within _ _ _ _) (List.forall_mem_nil _) (List.forall_mem_nil _) (fun r2 s1 => (fp_ite (fp_sm rfl) (fp_bi (fr_H_within _ _ _ _) (List.forall_mem_nil _) (List.forall_mem_nil _) (fun r4 s3 => (fp_ite (fp_sm rfl) (fp_ite (fp_bi (fr_Mu_reachedFrom _ _) (fun _ h => h) (List.forall_mem_nil _) (fun r8 s7 => (fp_sm rfl))) (fp_bi (fr_Mu_stepsOver _ _ _) (fun _ h => h) (List.forall_mem_nil _) (fun r6 s5 => (fp_sm rfl))))))))))
theorem fr_Re_take (v1 : Int32) (v2 : Int32) (s0 : Sg) : fP prI [33, 34, 35, 39, 40, 43, 45, 46, 47] [(30, 3), (30, 4), (30, 5), (30, 6), (30, 7), (31, 4), (31, 5), (31, 6), (31, 7), (31, 8), (31, 9), (36, 4), (37, 3), (38, 3), (42, 3), (44, 3)] s0 (fRe_take v1 v2 s0) := by
  unfold fRe_take
  exact (fp_ptF (by decide) (fun s1 => (fp_ptF (by decide) (fun s2 => (fp_bi (fr_H_within _ _ _ _) (List.forall_mem_nil _) (List.forall_mem_nil _) (fun r4 s3 => (fp_j0 (fun s5 => (fp_lq (fun q43 h_q43 u43 s6 => (fp_j0 (fun s7 => (fp_ptF (by decide) (fun s8 => (fp_ite (fp_sm rfl) (fp_sm rfl))))) (fun j118 h_j118 => (fp_ite (h_j118 _) (fp_ite (h_j118 _) (fp_ite (h_j118 _) (fp_bi (fr_Re_startsLine _ _ _) (List.forall_mem_nil _) (by decide) (fun r10 s9 => (fp_j1 (fun b111_0 s11 => (h_q43 _ _)) (fun j111 h_j111 => (fp_j0 (fun s12 => (h_j111 _ _)) (fun j110 h_j110 => (fp_ite (h_j110 _) (fp_j0 (fun s13 => (fp_bi (fr_Re_skip _ _) (List.forall_mem_nil _) (by decide) (fun r15 s14 => (fp_ite (h_j110 _) (h_j111 _ _))))) (fun j97 h_j97 => (fp_ite (fp_bi (fr_Re_readLawLine _) (by decide) (by decide) (fun r19 s18 => (fp_ite (h_j110 _) (h_j97 _)))) (fp_bi (fr_Re_readPlainLine _ _ _) (by decide) (by decide) (fun r17 s16 => (fp_ite (h_j110 _) (h_j97 _)))))))))))))))))))))) (fun j40 h_j40 => (fp_ite (h_j40 _) (fp_bv (fr_Te_clear _ _ _) (by first | decide | simp [hz_r20]) (by first | decide | simp [hz_r20]) (fun s20 => (fp_br (fr_Re_keywordsOf _ _) (List.forall_mem_nil _) (List.forall_mem_nil _) (fun r22 s21 => (fp_gs (fp_bv (fr_To_scan _ _) (by decide) (by decide) (fun s24 => (h_j40 _)))))))))))))))))
theorem fr_H_text (v1 : Int32) (s0 : Sg) : fP prI [22, 23, 26, 28, 29, 33, 34, 35, 39, 40, 43, 45, 46, 47] [(19, 4), (20, 3), (21, 3), (25, 3), (27, 3), (30, 3), (30, 4), (30, 5), (30, 6), (30, 7), (31, 4), (31, 5), (31, 6), (31, 7), (31, 8), (31, 9), (36, 4), (37, 3), (38, 3), (42, 3), (44, 3), (5, 2)] s0 (fH_text v1 s0) := by
  unfold fH_text
  exact (fp_bi (fr_Re_take _ _ _) (by decide) (by decide) (fun r2 s1 => (fp_ite (fp_sm rfl) (fp_bv (fr_Te_adopt _ _ _ _) (by first | decide | simp [hz_r20]) (by first | decide | simp [hz_r20]) (fun s3 => (fp_j0 (fun s4 => (fp_bv (fr_Pa_forget _) (List.forall_mem_nil _) (by decide) (fun s5 => (fp_sm rfl)))) (fun j48 h_j48 => (fp_ite (h_j48 _) (fp_ite (h_j48 _) (fp_sm rfl))))))))))
