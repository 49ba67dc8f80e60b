/-! the law from its entry: what the Statement gives of the start, as a world -/
def tmJS (i : Nat) : Term := match ownJS[i]? with
  | some q => Term.string q.1 q.2.1
  | none => Term.string "" 0
abbrev stC : Cond := Jvm.Cond.and given_1 narrow_1
theorem st_lo : ∀ j, j < 5 → Cond.eq (.elem (.static "LastWordHill" "LOWEST" "[I") (.int (Int32.ofNat j))) (.int (loV.getD j 0)) ∈ flatC stC := by decide +kernel
theorem st_hi : ∀ j, j < 5 → Cond.eq (.elem (.static "LastWordHill" "HIGHEST" "[I") (.int (Int32.ofNat j))) (.int (hiV.getD j 0)) ∈ flatC stC := by decide +kernel
theorem st_ex : ∀ i, i < 5 → Cond.exactly (tmJS i) "java/lang/String" ∈ flatC stC := by decide +kernel
theorem st_co : ∀ i, i < 5 → Cond.eq (.field (tmJS i) "java/lang/String" "coder" "B") (.int 0) ∈ flatC stC := by decide +kernel
theorem st_ar : ∀ i, i < 5 → Cond.arrayOf (.field (tmJS i) "java/lang/String" "value" "[B") .byte ∈ flatC stC := by decide +kernel
theorem st_le : ∀ i, i < 5 → Cond.eq (.length (.field (tmJS i) "java/lang/String" "value" "[B")) (.int (Int32.ofNat (lenJS.getD i 0))) ∈ flatC stC := by decide +kernel
theorem st_el : ∀ i, i < 5 → ∀ j, j < lenJS.getD i 0 → Cond.eq (.elem (.field (tmJS i) "java/lang/String" "value" "[B") (.int (Int32.ofNat j))) (.int ((bytJS.getD i []).getD j 0)) ∈ flatC stC := by decide +kernel
theorem st_ne : ∀ i, i < 5 → ∀ j, j < 5 → i ≠ j → (Cond.not (Cond.eq (tmJS i) (tmJS j)) ∈ flatC stC ∨ Cond.not (Cond.eq (tmJS j) (tmJS i)) ∈ flatC stC) := by decide +kernel
theorem st_sr : ∀ i, i < 5 → lw_tbl[([825, 826, 827, 828, 919] : List Nat).getD i 0]? = (ownJS[i]?).map fun q => Cond.stringRef q.1 q.2.1 q.2.2 := by decide +kernel
set_option maxHeartbeats 4000000 in
set_option maxRecDepth 100000 in
theorem st_base {p : Program} {s : State} {m : MethodId} {meth : Method} {c : Code} {b L : Nat} {xs : Nat → Int32} (C0 : lw_At p s m meth c b L xs) : ∃ w : WC, (∀ o, w.ad o = s.heap.size + o) ∧ va_K w.D hz_cl (hz_ty w) s ∧ hz_C0 (fun q => s.heap.size ≤ q) w s s.heap ∧ hz_C1 w s ∧ va_AO "LastWordHill$Scene" s := by
  obtain ⟨hx, hb, hr, hml, hown, hts, hX, hbl, hlocks, hgv⟩ := C0
  have hf := flat_of_before _ hgv
  have hA : ∀ a : Nat, a < s.heap.size → ¬ (fun q : Nat => s.heap.size ≤ q) a := fun a h => Nat.not_le.mpr h
  obtain ⟨c0, i0, k0⟩ := u_known (C := nR0) (T := nT0) (N := 5) (n := 5) hts (fun w hw => (List.mem_filter.mp (nL0 w hw)).1) (hts (.instantiable nR0 5) (List.mem_of_getElem? (i := 523) (by decide +kernel)))
  obtain ⟨c1, i1, k1⟩ := u_known (C := nR1) (T := nT1) (N := 4) (n := 4) hts (fun w hw => (List.mem_filter.mp (nL1 w hw)).1) (hts (.instantiable nR1 4) (List.mem_of_getElem? (i := 259) (by decide +kernel)))
  obtain ⟨c2, i2, k2⟩ := u_known (C := nR2) (T := nT2) (N := 9) (n := 9) hts (fun w hw => (List.mem_filter.mp (nL2 w hw)).1) (hts (.instantiable nR2 9) (List.mem_of_getElem? (i := 487) (by decide +kernel)))
  obtain ⟨c3, i3, k3⟩ := u_known (C := nR3) (T := nT3) (N := 3) (n := 3) hts (fun w hw => (List.mem_filter.mp (nL3 w hw)).1) (hts (.instantiable nR3 3) (List.mem_of_getElem? (i := 233) (by decide +kernel)))
  obtain ⟨c4, i4, k4⟩ := u_known (C := nR4) (T := nT4) (N := 8) (n := 8) hts (fun w hw => (List.mem_filter.mp (nL4 w hw)).1) (hts (.instantiable nR4 8) (List.mem_of_getElem? (i := 334) (by decide +kernel)))
  obtain ⟨c5, i5, k5⟩ := u_known (C := nR5) (T := nT5) (N := 13) (n := 13) hts (fun w hw => (List.mem_filter.mp (nL5 w hw)).1) (hts (.instantiable nR5 13) (List.mem_of_getElem? (i := 165) (by decide +kernel)))
  obtain ⟨c6, i6, k6⟩ := u_known (C := nR6) (T := nT6) (N := 2) (n := 2) hts (fun w hw => (List.mem_filter.mp (nL6 w hw)).1) (hts (.instantiable nR6 2) (List.mem_of_getElem? (i := 474) (by decide +kernel)))
  obtain ⟨c7, i7, k7⟩ := u_known (C := nR7) (T := nT7) (N := 4) (n := 4) hts (fun w hw => (List.mem_filter.mp (nL7 w hw)).1) (hts (.instantiable nR7 4) (List.mem_of_getElem? (i := 265) (by decide +kernel)))
  obtain ⟨c8, i8, k8⟩ := u_known (C := nR8) (T := nT8) (N := 5) (n := 5) hts (fun w hw => (List.mem_filter.mp (nL8 w hw)).1) (hts (.instantiable nR8 5) (List.mem_of_getElem? (i := 253) (by decide +kernel)))
  obtain ⟨c9, i9, k9⟩ := u_known (C := nR9) (T := nT9) (N := 10) (n := 10) hts (fun w hw => (List.mem_filter.mp (nL9 w hw)).1) (hts (.instantiable nR9 10) (List.mem_of_getElem? (i := 340) (by decide +kernel)))
  obtain ⟨c10, i10, k10⟩ := u_known (C := nR10) (T := nT10) (N := 10) (n := 10) hts (fun w hw => (List.mem_filter.mp (nL10 w hw)).1) (hts (.instantiable nR10 10) (List.mem_of_getElem? (i := 413) (by decide +kernel)))
  obtain ⟨c11, i11, k11⟩ := u_known (C := nR11) (T := nT11) (N := 10) (n := 10) hts (fun w hw => (List.mem_filter.mp (nL11 w hw)).1) (hts (.instantiable nR11 10) (List.mem_of_getElem? (i := 157) (by decide +kernel)))
  obtain ⟨c12, i12, k12⟩ := u_known (C := nR12) (T := nT12) (N := 70) (n := 70) hts (fun w hw => (List.mem_filter.mp (nL12 w hw)).1) (hts (.instantiable nR12 70) (List.mem_of_getElem? (i := 1407) (by decide +kernel)))
  obtain ⟨dC, dI, hKc⟩ : ∃ (dC : Nat → ClassId) (dI : Nat → Nat → Nat), ∀ (k : Nat) (q : vw_C), hz_cl[k]? = some q → u_Kn s q.1 q.2.1 q.2.2 (dC k) (dI k) := by
    refine ⟨fun k => ([c0, c1, c2, c3, c4, c5, c6, c7, c8, c9, c10, c11, c12] : List ClassId).getD k 0, fun k => ([i0, i1, i2, i3, i4, i5, i6, i7, i8, i9, i10, i11, i12] : List (Nat → Nat)).getD k (fun _ => 0), ?_⟩
    intro k q hq
    match k, hq with
    | 0, hq => cases hq; exact k0
    | 1, hq => cases hq; exact k1
    | 2, hq => cases hq; exact k2
    | 3, hq => cases hq; exact k3
    | 4, hq => cases hq; exact k4
    | 5, hq => cases hq; exact k5
    | 6, hq => cases hq; exact k6
    | 7, hq => cases hq; exact k7
    | 8, hq => cases hq; exact k8
    | 9, hq => cases hq; exact k9
    | 10, hq => cases hq; exact k10
    | 11, hq => cases hq; exact k11
    | 12, hq => cases hq; exact k12
    | k + 13, hq => simp at hq
  obtain ⟨cI, kI, compI, hfI, hkI, hkindI⟩ := Cond.arrayClass_spec (hts (.arrayClass .int) (List.mem_of_getElem? (i := 231) (by decide +kernel)))
  have hAO : (Cond.arrayOver (.object "LastWordHill$Scene")).before #[Value.ref b] s = true := hts _ (List.mem_of_getElem? (i := 239) (by decide +kernel))
  obtain ⟨compS, cS, kS, hcS, -, hkS, hkindS, hnS⟩ := Cond.arrayOver_spec hAO
  obtain ⟨lo, hlo, hTlo⟩ := va_Tof (N := 5) (f := fun j => .int (loV.getD j 0)) (A := fun q : Nat => s.heap.size ≤ q) (by decide) (hf (Cond.arrayOf (.static "LastWordHill" "LOWEST" "[I") .int) (by decide +kernel)) (va_eqt (hf (Cond.eq (.length (.static "LastWordHill" "LOWEST" "[I")) (.int (Int32.ofNat 5))) (by decide +kernel))) (fun j hj => va_eqt (hf _ (st_lo j hj))) hA
  obtain ⟨hi, hhi, hThi⟩ := va_Tof (N := 5) (f := fun j => .int (hiV.getD j 0)) (A := fun q : Nat => s.heap.size ≤ q) (by decide) (hf (Cond.arrayOf (.static "LastWordHill" "HIGHEST" "[I") .int) (by decide +kernel)) (va_eqt (hf (Cond.eq (.length (.static "LastWordHill" "HIGHEST" "[I")) (.int (Int32.ofNat 5))) (by decide +kernel))) (fun j hj => va_eqt (hf _ (st_hi j hj))) hA
  have hZlo := va_Zof (A := fun q : Nat => s.heap.size ≤ q) (hts (.laysStatic "LastWordHill" "LOWEST" "[I") (List.mem_of_getElem? (i := 603) (by decide +kernel))) (hts (.initialized "LastWordHill") (List.mem_of_getElem? (i := 134) (by decide +kernel))) hlo hA
  have hZhi := va_Zof (A := fun q : Nat => s.heap.size ≤ q) (hts (.laysStatic "LastWordHill" "HIGHEST" "[I") (List.mem_of_getElem? (i := 605) (by decide +kernel))) (hts (.initialized "LastWordHill") (List.mem_of_getElem? (i := 134) (by decide +kernel))) hhi hA
  have hZc := va_Zof (A := fun q : Nat => s.heap.size ≤ q) (hts (.laysStatic "java/lang/String" "COMPACT_STRINGS" "Z") (List.mem_of_getElem? (i := 858) (by decide +kernel))) (hts (.initialized "java/lang/String") (List.mem_of_getElem? (i := 150) (by decide +kernel))) (va_eqi (z := 1) (hf (Cond.eq (.static "java/lang/String" "COMPACT_STRINGS" "Z") (.int 1)) (by decide +kernel))) hA
  have hZq := va_Zqof (A := fun q : Nat => s.heap.size ≤ q) (hts (.laysStatic "jdk/internal/util/Preconditions" "SIOOBE_FORMATTER" "Ljava/util/function/BiFunction;") (List.mem_of_getElem? (i := 874) (by decide +kernel))) (hts (.initialized "jdk/internal/util/Preconditions") (List.mem_of_getElem? (i := 152) (by decide +kernel))) (hf (Cond.isRef (.static "jdk/internal/util/Preconditions" "SIOOBE_FORMATTER" "Ljava/util/function/BiFunction;")) (by decide +kernel)) hA
  obtain ⟨fm, hZf⟩ : ∃ fm : Option Nat, va_Z "jdk/internal/util/Preconditions" "SIOOBE_FORMATTER" "Ljava/util/function/BiFunction;" (va_rf fm) (fun q : Nat => s.heap.size ≤ q) s s.heap := by
    rcases hZq with h | ⟨t, h⟩
    · exact ⟨none, h⟩
    · exact ⟨some t, h⟩
  obtain ⟨aK, aV, hVS, hEv⟩ := vk_Sof (N := nJS) (tm := tmJS) (len := lenJS) (byt := bytJS) (A := fun q : Nat => s.heap.size ≤ q) (by decide +kernel) (fun i hi => hf _ (st_ex i hi)) (fun i hi => hf _ (st_co i hi)) (fun i hi => hf _ (st_ar i hi)) (fun i hi => hf _ (st_le i hi)) (fun i hi j hj => hf _ (st_el i hi j hj)) (fun i j hi hj hij => (st_ne i hi j hj hij).imp (hf _) (hf _)) hA
  refine ⟨(fun o => s.heap.size + o, cI, cS, (dC, dI), lo, hi, aK, aV, fm), fun _ => rfl, ⟨hKc, ?_⟩, ⟨hZlo, hTlo, hZhi, hThi, hZc, hZf, hVS⟩, ⟨?_, ?_⟩, hAO⟩
  · intro k q hk
    match k, hk with
    | 0, hk => cases hk; exact ⟨fun n z => ⟨fun k h => (by cases h), kI, hkI, compI, hkindI⟩, hfI⟩
    | 1, hk => cases hk; exact ⟨fun n z => ⟨fun k h => (by cases h), kS, hkS, compS, hkindS⟩, kS, compS, hkS, hkindS, hcS, hnS⟩
    | k + 2, hk => simp at hk
  · intro i q hq
    have hi : i < 5 := (List.getElem?_eq_some_iff.mp hq).1
    have h1 := st_sr i hi
    rw [hq] at h1
    have h2 := hEv i hi
    rw [show tmJS i = Term.string q.1 q.2.1 by simp only [tmJS, hq]] at h2
    exact vk_R.of (hts _ (List.mem_of_getElem? h1)) h2
  · intro w hw
    have h1 := hts w (List.mem_filter.mp hw).1
    have h2 := (List.mem_filter.mp hw).2
    cases w <;> first | exact va_Nw.of rfl h1 | cases h2
theorem nw_LastWordHillLaw_7 : NWc "LastWordHillLaw" 7 11 := ⟨_, _, _, _, rfl, nL11, nY11, hz_in 156 (by decide +kernel) (by decide +kernel), hz_in 157 (by decide +kernel) (by decide +kernel), hz_in 134 (by decide +kernel) (by decide +kernel), by decide +kernel, by decide, by decide⟩
theorem nw_LastWordHillLaw_10 : NWc "LastWordHillLaw" 10 12 := ⟨_, _, _, _, rfl, nL12, nY12, hz_in 1406 (by decide +kernel) (by decide +kernel), hz_in 1407 (by decide +kernel) (by decide +kernel), hz_in 147 (by decide +kernel) (by decide +kernel), by decide +kernel, by decide, by decide⟩
theorem mm_H_init : MMc yH_init cH_init 1 none 0 := ⟨hz_in 160 (by decide +kernel) (by decide +kernel), hz_in 134 (by decide +kernel) (by decide +kernel), by decide +kernel, by decide⟩
set_option maxRecDepth 100000 in
set_option maxHeartbeats 4000000 in
theorem mm_M_init : MMc yM_init cM_init 1 none 0 := ⟨hz_in 1410 rfl rfl, hz_in 147 (by decide +kernel) (by decide +kernel), by decide +kernel, by decide⟩
theorem mi_H_init : Cond.instanceMethod yH_init ∈ hz_wt := hz_in 159 (by decide +kernel) (by decide +kernel)
theorem mi_M_init : Cond.instanceMethod yM_init ∈ hz_wt := hz_in 1409 (by decide +kernel) (by decide +kernel)
theorem ml_L_9 : Cond.methodLink "LastWordHillLaw" 9 yH_init ∈ hz_wt := hz_in 158 (by decide +kernel) (by decide +kernel)
theorem ml_L_12 : Cond.methodLink "LastWordHillLaw" 12 yM_init ∈ hz_wt := hz_in 1408 (by decide +kernel) (by decide +kernel)
theorem dL_law_0 : decode code 0 = .ok (.new 7, 3) := by decide +kernel
theorem dL_law_3 : decode code 3 = .ok (.dup, 1) := by decide +kernel
theorem dL_law_4 : decode code 4 = .ok (.invokespecial 9, 3) := by decide +kernel
theorem dL_law_7 : decode code 7 = .ok (.astore_n 1, 1) := by decide +kernel
theorem dL_law_8 : decode code 8 = .ok (.new 10, 3) := by decide +kernel
theorem dL_law_11 : decode code 11 = .ok (.dup, 1) := by decide +kernel
theorem dL_law_12 : decode code 12 = .ok (.invokespecial 12, 3) := by decide +kernel
theorem dL_law_15 : decode code 15 = .ok (.astore_n 2, 1) := by decide +kernel
theorem rm_L {C : Cx} {a b : Nat} (h : C.R = room_1) (h1 : a ≤ 600000) (h2 : b ≤ 7302250) : a ≤ C.R.cells ∧ b ≤ C.R.slots := by rw [h]; exact ⟨h1, h2⟩
def fL_init : Option Gt := gk 0 11 (bg (fH_init 0 1 (fun _ _ => none) (fun _ _ => 0)) (0 + 1 + 101) (fun _ r s => gk (0 + 1 + 101) 12 (bg (fM_init (0 + 1 + 101) (0 + 1 + 101 + 1) r s) (0 + 1 + 101 + 1 + 39) (fun _ r s => some (0 + 1 + 101 + 1 + 39, r, s)))))
set_option maxHeartbeats 4000000 in
set_option maxRecDepth 100000 in
theorem law_ctor {C : Cx} {P : Gt → Prop} {b : Nat} (X : FxC C code 4 R_law 16) (hR0 : C.R = room_1) (kk : ∀ r τ, GP C P 16 [some (.ref b), some (.ref (C.w.ad 0)), some (.ref (C.w.ad (0 + 1 + 101))), none] [] (0 + 1 + 101 + 1 + 39) (0 + 10 + 6471 + 70 + 30227) (0 + 1 + 101 + 1 + 39) r τ (some (0 + 1 + 101 + 1 + 39, r, τ))) : GP C P 0 [some (.ref b), none, none, none] [] 0 0 0 (fun _ _ => none) (fun _ _ => 0) fL_init := by
  unfold fL_init
  refine c_new X (N := 10) nw_LastWordHillLaw_7 (by decide) (rm_L hR0 (by decide) (by decide)) dL_law_0 (fun h1 => ?_)
  refine c_dup X dL_law_3 rfl ?_
  refine c_call X (as := []) (rest := [.ref (C.w.ad 0)]) mm_H_init mi_H_init rfl ml_L_9 (okH_init 0 1 (fun _ _ => none) (fun _ _ => 0) C.l C.w) rfl (by decide) rfl (Nat.le_of_ble_eq_true rfl) (rm_L hR0 (by decide) (by decide)) dL_law_4 (fun r1 s1 => ?_)
  refine c_astore_n X [some (.ref b), some (.ref (C.w.ad 0)), none, none] dL_law_7 (by decide) (Nat.le_of_ble_eq_true rfl) rfl ?_
  refine c_new X (N := 70) nw_LastWordHillLaw_10 (by decide) (rm_L hR0 (by decide) (by decide)) dL_law_8 (fun h2 => ?_)
  refine c_dup X dL_law_11 rfl ?_
  refine c_call X (as := []) (rest := [.ref (C.w.ad (0 + 1 + 101))]) mm_M_init mi_M_init rfl ml_L_12 (okM_init (0 + 1 + 101) (0 + 1 + 101 + 1) r1 s1 C.l C.w) rfl (by decide) rfl (Nat.le_of_ble_eq_true rfl) (rm_L hR0 (by decide) (by decide)) dL_law_12 (fun r2 s2 => ?_)
  refine c_astore_n X [some (.ref b), some (.ref (C.w.ad 0)), some (.ref (C.w.ad (0 + 1 + 101))), none] dL_law_15 (by decide) (Nat.le_of_ble_eq_true rfl) rfl ?_
  exact kk r2 s2
/-- all references, as they lie in the end -/
def rhoL : List (Nat × Nat × Nat) := [(0, 0, 1), (0, 1, 3), (0, 2, 5), (0, 3, 19), (0, 4, 30), (0, 5, 48), (0, 6, 63), (0, 7, 65), (0, 8, 66), (0, 9, 71), (1, 0, 2), (3, 0, 4), (5, 0, 6), (6, 0, 7), (6, 1, 9), (6, 2, 11), (6, 3, 13), (6, 4, 15), (6, 5, 17), (7, 0, 8), (9, 0, 10), (11, 0, 12), (13, 0, 14), (15, 0, 16), (17, 0, 18), (19, 0, 20), (19, 1, 25), (19, 2, 27), (19, 3, 29), (20, 0, 21), (20, 1, 23), (20, 2, 24), (21, 2, 22), (25, 2, 26), (27, 2, 28), (30, 0, 31), (30, 1, 36), (30, 2, 47), (31, 0, 32), (31, 1, 33), (31, 2, 34), (31, 3, 35), (36, 0, 37), (36, 1, 42), (36, 2, 44), (36, 3, 46), (37, 0, 38), (37, 1, 40), (37, 2, 41), (38, 2, 39), (42, 2, 43), (44, 2, 45), (48, 0, 49), (48, 1, 51), (48, 2, 53), (48, 3, 55), (48, 4, 57), (48, 5, 59), (48, 6, 61), (49, 2, 50), (51, 2, 52), (53, 2, 54), (55, 2, 56), (57, 2, 58), (59, 2, 60), (61, 2, 62), (63, 2, 64), (65, 0, 19), (65, 1, 63), (66, 0, 19), (66, 1, 48), (66, 2, 67), (66, 3, 68), (66, 4, 69), (66, 5, 70), (71, 0, 72), (71, 1, 74), (71, 2, 85), (71, 3, 100), (72, 0, 73), (74, 0, 75), (74, 1, 80), (74, 2, 82), (74, 3, 84), (75, 0, 76), (75, 1, 78), (75, 2, 79), (76, 2, 77), (80, 2, 81), (82, 2, 83), (85, 0, 86), (85, 1, 88), (85, 2, 90), (85, 3, 92), (85, 4, 94), (85, 5, 96), (85, 6, 98), (86, 2, 87), (88, 2, 89), (90, 2, 91), (92, 2, 93), (94, 2, 95), (96, 2, 97), (98, 2, 99), (100, 2, 101), (102, 1, 103), (102, 2, 104), (102, 4, 105), (102, 7, 106), (102, 8, 107), (102, 9, 108), (102, 10, 109), (102, 11, 110), (102, 17, 111), (102, 18, 112), (102, 19, 113), (102, 20, 114), (102, 21, 115), (102, 22, 116), (102, 23, 117), (102, 24, 118), (102, 28, 119), (102, 35, 120), (102, 37, 121), (102, 39, 122), (102, 40, 123), (102, 41, 124), (102, 42, 125), (102, 44, 126), (102, 45, 127), (102, 47, 128), (102, 48, 129), (102, 50, 130), (102, 51, 131), (102, 52, 132), (102, 54, 133), (102, 55, 134), (102, 56, 135), (102, 57, 136), (102, 61, 137), (102, 63, 138), (102, 64, 139), (102, 65, 140), (102, 69, 141)]
def rhoC (o j : Nat) : Bool := (!(decide (hz_kd o < 13)) || !((hz_bs (hz_kd o))[j]? == some true) || rhoL.contains (o, j, hz_rf o j)) && (!(hz_kd o == 14) || !(decide (j < 6)) || rhoL.contains (o, j, hz_rf o j))
theorem rhoC_all : (List.range 142).all (fun o => (List.range 70).all fun j => rhoC o j) = true := by decide +kernel
theorem rhoL_all (o : Nat) (ho : o < 142) (j : Nat) (hj : j < 70) : (hz_kd o < 13 → (hz_bs (hz_kd o))[j]? = some true → (o, j, hz_rf o j) ∈ rhoL) ∧ (hz_kd o = 14 → j < 6 → (o, j, hz_rf o j) ∈ rhoL) := by
  have h := List.all_eq_true.mp (List.all_eq_true.mp rhoC_all o (List.mem_range.mpr ho)) j (List.mem_range.mpr hj)
  simp only [rhoC, Bool.and_eq_true, Bool.or_eq_true, Bool.not_eq_true', decide_eq_false_iff_not, beq_eq_false_iff_ne, ne_eq, List.contains_eq_mem, decide_eq_true_eq] at h
  refine ⟨fun h1 h2 => ?_, fun h1 h2 => ?_⟩
  · rcases h.1 with (q | q) | q
    · exact absurd h1 q
    · exact absurd h2 q
    · exact q
  · rcases h.2 with (q | q) | q
    · exact absurd h1 q
    · exact absurd h2 q
    · exact q
theorem initS : fL_init.isSome = true := by decide +kernel
def zI : Gt := fL_init.get initS
theorem zI_eq : fL_init = some zI := (Option.some_get initS).symm
theorem zI_n : zI.1 = 142 := by decide +kernel
theorem zI_r : ∀ t ∈ rhoL, zI.2.1 t.1 t.2.1 = some t.2.2 := by decide +kernel
/-- all int slots at the start -/
def sI : Sg := zI.2.2
theorem arrV_congr {cI : ClassId} {N : Nat} {f g : Nat → Value} (h : ∀ j, j < N → f j = g j) : arrV cI N f = arrV cI N g := by
  unfold arrV
  congr 2
  funext j
  exact h j.val j.isLt
theorem hz_bs_len : ∀ k, k < 13 → (hz_bs k).length ≤ 70 := by decide +kernel
theorem grown {w : WC} {ρ : Rh} {σ : Sg} {H : Heap} (hr : ∀ t ∈ rhoL, ρ t.1 t.2.1 = some t.2.2) (hP : va_P w.D hz_cl (cg_w w 142 ρ σ) H) : va_P w.D hz_cl (hz_wl w σ) H := by
  intro o q hq
  have ho : o < 142 := by
    have := (List.getElem?_eq_some_iff.mp hq).1
    simpa [hz_wl] using this
  have h1 := hP o _ (cg_at w ρ σ ho)
  rw [hz_wl_at w σ ho] at hq
  cases hq
  by_cases k13 : hz_kd o = 13
  · rw [cg_e13 w ρ σ k13] at h1
    rw [hz_ce13 w σ k13]
    exact h1
  · by_cases k14 : hz_kd o = 14
    · rw [cg_e14 w ρ σ k14] at h1
      rw [hz_ce14 w σ k14]
      have hl : hz_ln o = 6 := hz_dec (P := fun o => hz_kd o = 14 → hz_ln o = 6) (by decide +kernel) (fun o ho h => by simp [hz_kd, List.getD, ho] at h) o k14
      rw [hl] at h1 ⊢
      have h2 : H[w.ad o]? = some (vp_cell w.cS (6, .inr (.inr (.inr (.inr (fun i => (ρ o i).map w.ad)))))) := h1
      show H[w.ad o]? = some (vp_cell w.cS (6, .inr (.inr (.inr (.inr (fun i => some (w.ad (hz_rf o i))))))))
      rw [h2, vp_cell_q, vp_cell_q]
      congr 1
      refine arrV_congr (fun j hj => ?_)
      have h3 := hr _ ((rhoL_all o ho j (by omega)).2 k14 hj)
      show va_rf ((ρ o j).map w.ad) = va_rf (some (w.ad (hz_rf o j)))
      rw [show ρ o j = some (hz_rf o j) from h3]
      rfl
    · have kl : hz_kd o < 13 := by
        have : ∀ o, o < 142 → hz_kd o < 15 := by decide +kernel
        have := this o ho
        omega
      rw [cg_eO w ρ σ rfl kl] at h1
      rw [hz_ceO w σ rfl kl]
      have e : cg_fv w.ad (ρ o) (σ o) 0 (hz_bs (hz_kd o)) = hz_fv w.ad (hz_rf o) (σ o) 0 (hz_bs (hz_kd o)) := by
        apply List.ext_getElem?
        intro j
        rw [cg_fv_at, hz_fv_at]
        cases hb : (hz_bs (hz_kd o))[j]? with
        | none => rfl
        | some b =>
          cases b with
          | false => rfl
          | true =>
            have hj : j < 70 := Nat.lt_of_lt_of_le (List.getElem?_eq_some_iff.mp hb).1 (hz_bs_len _ kl)
            have h3 := hr _ ((rhoL_all o ho j hj).1 kl hb)
            simp only [Option.map_some, Nat.zero_add]
            rw [show ρ o j = some (hz_rf o j) from h3]
            rfl
      rw [e] at h1
      exact h1
/-- THE PURE CLAIM: on every script of at most 3072 ints the law's function answers 1 -/
def PureClaim : Prop := ∀ (xs : Nat → Int32) (n : Nat), n ≤ 3072 → ∃ τ, fL_law xs n sI = some (1, τ)
set_option maxHeartbeats 4000000 in
set_option maxRecDepth 100000 in
theorem whole_from (hp : PureClaim) {p : Program} {e : Env} {s : State} {m : MethodId} {below : List Frame} {meth : Method} {c : Code} (l : Launch) {b L : Nat} {xs : Nat → Int32} (hL : L ≤ 3072) (C0 : lw_At p s m meth c b L xs) : W p l e room_1 s m #[Value.ref b] below meth c s.heap [] 0 0 (lw_Z below #[Value.ref b] s) (entryFrame m ([Value.ref b] : List Value).toArray 4) := by
  obtain ⟨w, had, hK, hC0, hC1, hAO⟩ := st_base C0
  obtain ⟨hx, hb, hr, hml, hown, hts, hX, hbl, hlocks, hgv⟩ := C0
  obtain ⟨τ, hτ⟩ := hp xs L hL
  have hts' : ∀ q ∈ hz_wt, q.before #[Value.ref b] s = true := fun q hq => hts q (List.mem_filter.mp hq).1
  have hLn : Ln w := fun o => by rw [had o, had 0]; omega
  have hA0 : (fun q : Nat => s.heap.size ≤ q) = cA0 w := by
    funext q
    show (s.heap.size ≤ q) = (w.ad 0 ≤ q)
    rw [had 0]; rfl
  have q1 : 16 ≤ room_1.frames := by decide
  have q2 : 100 * 16 ≤ room_1.locals := by decide
  have q3 : 142 ≤ room_1.cells := by decide
  have q4 : 36778 ≤ room_1.slots := by decide
  obtain ⟨C, hCe⟩ : ∃ C : Cx, C = (p, l, e, room_1, s, m, #[Value.ref b], below, meth, c, w, some (.int 1), τ, 142, 36778, (fun q : Nat => s.heap.size ≤ q), lw_Z below #[Value.ref b] s) := ⟨_, rfl⟩
  have X : FxC C code 4 R_law 16 := by
    subst hCe
    exact ⟨hx, hb, hml, hown, hts', ⟨q1, q2⟩, hK, hLn, hAO, hA0, by rw [had 0]; exact Nat.le_refl _, hC1.2⟩
  have hInj : hz_Inj w := fun i j hi hj e => by rw [had i, had j] at e; omega
  have X2 : Fx C cL_law 4 R_law ret 16 := by
    subst hCe
    exact ⟨hx, hb, hml, hown, hts', hr, hlocks, ⟨q1, q2, q3, q4⟩, hK, hInj, hC0, hC1, fun q ⟨o, ho, hq⟩ => by rw [hq, had o]; exact Nat.le_add_right _ _⟩
  have E : LE C b := by
    subst hCe
    exact ⟨rfl, rfl, q3, q4, rfl, rfl, rfl⟩
  have Y : LX C b L xs := by
    subst hCe
    exact ⟨hX, hbl, Nat.not_le.mpr hbl⟩
  have hl := lv_entry ([.ref b]) (n := 4) (Nat.le_of_ble_eq_true rfl)
  have hLV : LV ((lg_sl [.ref b] ++ List.replicate (4 - (lg_sl [.ref b]).length) Slot.unset).toArray) C.c.maxLocals [some (.ref b), none, none, none] := by
    refine ⟨by rw [X.hml]; exact hl.1, hl.2.1, fun i v hv => ?_⟩
    match i, hv with
    | 0, hv => cases hv; exact ⟨hl.2.2 (0, .ref b) List.mem_cons_self, rfl⟩
    | 1, hv => cases hv
    | 2, hv => cases hv
    | 3, hv => cases hv
    | i + 4, hv => simp at hv
  have key : GP C (fun z => z = zI) 0 [some (.ref b), none, none, none] [] 0 0 0 (fun _ _ => none) (fun _ _ => 0) fL_init := by
    refine law_ctor X (by rw [hCe]) (fun r σ => ?_)
    intro z hz he H locs ls hs hF hP hS hl
    cases hz
    have hn : r = zI.2.1 := congrArg (fun q => q.2.1) he
    have hs2 : σ = sI := congrArg (fun q => q.2.2) he
    subst hn
    subst hs2
    have hG := law_walk X2 E Y sI (1, τ) hτ (by rw [hCe])
    have hW := hG H locs ls (grown zI_r hP) hS hl
    rw [hCe] at hW ⊢
    exact hW
  have hfin := key zI zI_eq rfl s.heap [] _ (by rw [hCe]; exact (had 0).symm) (fun a _ => ⟨rfl, rfl⟩) (fun k q h => by simp [cg_w] at h) (by rw [hCe]; exact va_S.rf) hLV
  rw [lg_entry_eq]
  rw [hCe] at hfin
  exact hfin
