/-! the image, both sides -/
def imMo : List Nat := [103, 106, 107, 108, 109, 112, 113, 114, 115, 116, 117, 118, 120, 121, 122, 126, 127, 128, 129, 130, 131, 132, 133, 134, 138, 139]
def imMf : List (Nat × Nat) := [(102, 0), (102, 3), (102, 6), (102, 34), (102, 36), (102, 38), (102, 43), (102, 46), (102, 49), (102, 53), (102, 58), (102, 59), (102, 60), (102, 62), (102, 66), (102, 68)]
theorem imMo_s : ∀ x ∈ [103, 106, 107, 108, 109, 112, 113, 114, 115, 116, 117, 118, 120, 121, 122, 126, 127, 128, 129, 130, 131, 132, 133, 134, 138, 139, 141], x = 141 ∨ x ∈ imMo := by decide
theorem imMf_s : ∀ x ∈ [(102, 0), (102, 3), (102, 6), (102, 34), (102, 36), (102, 38), (102, 43), (102, 46), (102, 49), (102, 53), (102, 58), (102, 59), (102, 60), (102, 62), (102, 66), (102, 67), (102, 68)], x = (102, 67) ∨ x ∈ imMf := by decide
theorem sim_give {a b : Sg} (hI : Inv a b) (h1 : a 71 4 = 1) (h2 : b 102 67 = 1) (h3 : ∀ i, Bg i (imC a) (imM b)) : ∃ r a' b', fH_image 0 a = some (r, a') ∧ fM_image 0 b = some (r, b') ∧ Inv a' b' := by
  obtain ⟨t, et, hC⟩ := all_give a
  obtain ⟨z, ez, hz1, s, tm, q1, q2, q3, q4, hK, hz2⟩ := k_all (v := 0) (b := b) (Or.inl rfl) (fun _ => by rw [h2]; decide)
  obtain ⟨_, _, hf, hk⟩ := hK
  obtain ⟨k141, kc⟩ : tm 141 = s 141 ∧ ∀ q k, Vc q k → imP q k < 2137 → tm q k = s 141 (imP q k) := by
    rcases hk with ⟨x, _⟩ | ⟨_, y1, y2⟩
    · exact absurd x (by decide)
    · exact ⟨y1, y2⟩
  rw [if_pos rfl] at hz2
  have eH : fH_image 0 a = some (1, pt t 5 2 0) := by
    unfold fH_image
    rw [if_pos rfl, if_neg (by rw [h1]; decide), et, bv_s, e_forget, bv_s, gb_1]
  have hA : ∀ o k, o ∉ [(hz_rf (hz_rf (hz_rf 19 0) 0) 2), (hz_rf (hz_rf 19 0) 1), (hz_rf (hz_rf 19 1) 2), (hz_rf (hz_rf 19 2) 2), (hz_rf (hz_rf 48 0) 2), (hz_rf (hz_rf 48 1) 2), (hz_rf (hz_rf 48 2) 2), (hz_rf (hz_rf 48 3) 2), (hz_rf (hz_rf 48 4) 2), (hz_rf (hz_rf 48 5) 2), (hz_rf (hz_rf 48 6) 2), (hz_rf 1 0), (hz_rf 19 3), (hz_rf 63 2)] → (o, k) ∉ ((5, 2) :: [((hz_rf (hz_rf 19 0) 0), 3), ((hz_rf 19 0), 3), ((hz_rf 19 1), 3), ((hz_rf 19 2), 3), ((hz_rf 48 0), 3), ((hz_rf 48 1), 3), ((hz_rf 48 2), 3), ((hz_rf 48 3), 3), ((hz_rf 48 4), 3), ((hz_rf 48 5), 3), ((hz_rf 48 6), 3), (1, 1), (1, 2), (1, 3), (1, 4), (1, 5), (1, 6), (1, 7), (1, 8), (1, 9), (1, 10), (1, 11), (1, 12), (19, 4), (48, 7), (48, 8), (48, 9), (63, 3)]) → pt t 5 2 0 o k = a o k := by
    intro o k n1 n2
    rw [ptf2 _ _ _ _ (fun c => n2 (c ▸ List.mem_cons_self))]
    exact fr_Im_giveBack 1 19 48 63 a t et o k n1 (fun hm => n2 (List.mem_cons_of_mem _ hm))
  have hB : ∀ o k, o ∉ imMo → (o, k) ∉ imMf → z.2 o k = b o k := by
    intro o k n1 n2
    by_cases h141 : o = 141
    · subst h141
      rw [hz2, ptq _ _ _ (by decide), k141, q1 _ (by decide)]
    · by_cases h67 : (o, k) = (102, 67)
      · cases h67
        rw [hz2, pt_k _ _ _ (by decide), hf 102 67 (by decide) (by decide) (fun hv => (vc_n hv).2.2.1 rfl), q3, h2]
      · exact fr_M_image 0 b z ez o k (fun hm => (imMo_s o hm).elim h141 n1) (fun hm => (imMf_s _ hm).elim h67 n2)
  refine ⟨1, pt t 5 2 0, z.2, eH, by rw [ez, ← hz1], Inv_step [0, 1, 2, 3, 4, 5, 6, 7, 8, 9, 10, 11, 12, 13, 15] hI hA hB (by decide) (by decide) (fun i hi => ?_)⟩
  by_cases h15 : i = 15
  · subst h15
    refine ps_no (hI 15) ?_ (pt_s _ _ _ _) (by rw [hz2]; exact pt_s _ _ _ _)
    rw [pt_k _ _ _ (by decide)]
    exact fr_Im_giveBack 1 19 48 63 a t et 5 1 (by decide) (by decide)
  · have hi14 : i < 14 := by
      have : ∀ x ∈ [0, 1, 2, 3, 4, 5, 6, 7, 8, 9, 10, 11, 12, 13, 15], x = 15 ∨ x < 14 := by decide
      exact (this i hi).resolve_left h15
    rw [grp_bg i hi14]
    have hM : HM (imM b) z.2 := by
      intro o k hv
      show z.2 o k = b 141 (imP o k)
      rw [hz2, ptf2 _ _ _ _ (vc_z hv).2, kc o k hv hv.1, q1 _ (by decide)]
    refine Bg_keep i (Bg_cp hC hM i (h3 i)) (fun o ho => ptq _ _ _ ((rC_no5 i hi14).1 o ho)) (fun x hx => ?_) (fun _ _ => rfl) (fun _ _ => rfl) hi14
    rw [ptq _ _ _ ((rC_no5 i hi14).2 x hx)]
theorem sim_take {a b : Sg} (hI : Inv a b) : ∃ r a' b', fH_image 1 a = some (r, a') ∧ fM_image 1 b = some (r, b') ∧ Inv a' b' := by
  obtain ⟨t, et, hC, h71⟩ := all_take a
  obtain ⟨z, ez, hz1, s, tm, q1, q2, q3, q4, hK, hz2⟩ := k_all (v := 1) (b := b) (Or.inr rfl) (fun h => absurd h (by decide))
  obtain ⟨_, _, hf, hk⟩ := hK
  obtain ⟨k1, k2⟩ : (∀ q k, Vc q k → tm q k = s q k) ∧ ∀ q k, Vc q k → imP q k < 2137 → tm 141 (imP q k) = s q k := by
    rcases hk with ⟨_, y1, y2⟩ | ⟨x, _⟩
    · exact ⟨y1, y2⟩
    · exact absurd x (by decide)
  rw [if_neg (by decide)] at hz2
  have eH : fH_image 1 a = some (1, t) := by
    unfold fH_image
    rw [if_neg (by decide), et, bv_s, gb_1]
  have hs : ∀ o k, (o, k) ≠ (102, 0) → (o, k) ≠ (102, 66) → (o, k) ≠ (102, 67) → (o, k) ≠ (102, 68) → s o k = b o k := by
    intro o k n0 n1 n2 n3
    by_cases h : o = 102
    · subst h
      exact q2 k (fun c => n0 (by rw [c])) (fun c => n1 (by rw [c])) (fun c => n2 (by rw [c])) (fun c => n3 (by rw [c]))
    · rw [q1 o h]
  have hB : ∀ o k, o ∉ [141] → (o, k) ∉ [(102, 0), (102, 66), (102, 67), (102, 68)] → z.2 o k = b o k := by
    intro o k n1 n2
    have n1 : o ≠ 141 := fun c => n1 (by rw [c]; decide)
    have m0 : (o, k) ≠ (102, 0) := fun c => n2 (by rw [c]; decide)
    have m1 : (o, k) ≠ (102, 66) := fun c => n2 (by rw [c]; decide)
    have m2 : (o, k) ≠ (102, 67) := fun c => n2 (by rw [c]; decide)
    have m3 : (o, k) ≠ (102, 68) := fun c => n2 (by rw [c]; decide)
    rw [hz2, ← hs o k m0 m1 m2 m3]
    by_cases hv : Vc o k
    · exact k1 o k hv
    · exact hf o k n1 m3 hv
  refine ⟨1, t, z.2, eH, by rw [ez, ← hz1], Inv_step [14] hI (fr_Im_take 1 19 48 63 a t et) hB (by decide) (by decide) (al1 (Or.inr ⟨h71, ?_, fun i => ?_⟩))⟩
  · rw [hz2, hf 102 67 (by decide) (by decide) (fun hv => (vc_n hv).2.2.1 rfl)]
    exact q3
  · by_cases hi : i < 14
    · refine Bg_cp hC (fun o k hv => ?_) i (by rw [← grp_bg i hi]; exact hI i)
      obtain ⟨n1, n2, n3, n4⟩ := vc_n hv
      show z.2 141 (imP o k) = b o k
      rw [hz2, k2 o k hv hv.1, hs o k (vc_z hv).1 n2 n3 n4]
    · exact Bg_big i (by omega)
theorem sim_image (v : Int32) (hv : v = 0 ∨ v = 1) : Sim (fH_image v) (fM_image v) := by
  intro a b hI
  rcases hv with rfl | rfl
  · rcases (show gIm a b from hI 14) with ⟨h1, h2⟩ | ⟨h1, h2, h3⟩
    · refine ⟨0, a, pt b 102 0 0, ?_, ?_, Inv_told hI⟩
      · unfold fH_image
        rw [if_pos rfl, if_pos h1, gb_0]
      · unfold fM_image
        rw [bnd_e, bnd_e, if_pos rfl, if_pos (show pt b 102 0 0 102 67 = 0 by rw [pt_k _ _ _ (by decide)]; exact h2), gb_0]
    · exact sim_give hI h1 h2 h3
  · exact sim_take hI
