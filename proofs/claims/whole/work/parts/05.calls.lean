/-! rows of calls -/
/-- a method of ours: its code and what the tables say of it -/
def MMc (y : MethodName) (cc : ByteArray) (maxL : Nat) (ret : Option FieldType) (n : Nat) : Prop := Cond.code y cc maxL ret ∈ hz_wt ∧ Cond.initialized y.cls ∈ hz_wt ∧ (y.cls ≠ "java/lang/invoke/MethodHandle" ∧ y.cls ≠ "java/lang/invoke/VarHandle" ∧ (parseMethodDescriptor y.desc).map (fun d => d.parameters.length) = some n) ∧ maxL ≤ 70
def MMv (y : MethodName) (ci : Nat) : Prop := Cond.instanceMethod y ∈ hz_wt ∧ Cond.selects y.cls y y ∈ hz_wt ∧ ∃ (T : u_T) (N : Nat), hz_cl[ci]? = some (y.cls, T, N) ∧ ci < 13
theorem hz_good {y : MethodName} {cc : ByteArray} {maxL : Nat} {ret : Option FieldType} (h : Cond.code y cc maxL ret ∈ hz_wt) : GoodIn hz_wt (Cond.code y cc maxL ret :: hz_wt) := by
  have key : ∀ w ∈ hz_wt, w ∈ hz_wt ∧ ((w.onTables && w.keeps) = true ∨ ∃ ty, w = .arrayClass ty) := fun w hw => ⟨hw, good_of_word (List.mem_filter.mp hw).2⟩
  intro w hw
  rcases List.mem_cons.mp hw with rfl | hw
  · exact key _ h
  · exact key w hw
section CALLS
variable {R R' : Type} {C : Cx} {cc : ByteArray} {nL : Nat} {own : String} {ret : Option FieldType} {d : Nat} {ev : R → Option Value × Sg} {pc : Nat} {L : List (Option Value)} {st st0 rest : List Value} {σ : Sg} {f : Option R}
variable {y : MethodName} {cy : ByteArray} {mL : Nat} {ry : Option FieldType} {n dy idx : Nat} {evy : R' → Option Value × Sg} {as : List Value} {fy : Option R'}
theorem cb_of (X : Fx C cc nL own ret d) (mm : MMc y cy mL ry n) (ml : Cond.methodLink own idx y ∈ hz_wt) (hdd : dy < d) : CallB C.R C.s C.args own idx y cy mL ry (Cond.code y cy mL ry :: hz_wt) (rmD dy) 0 0 n := by
  obtain ⟨h1, h2, h3, h4⟩ := mm
  refine callB_of n X.hts (hz_good h1) rfl rfl rfl (X.hts _ h2) (X.hts _ ml) h3 ?_
  have hR := X.hR
  constructor
  · show dy + 1 ≤ C.R.frames
    omega
  · show 8 + (mL + 11) + 100 * dy ≤ C.R.locals
    omega
theorem cn_of (X : Fx C cc nL own ret d) {host : String} (mm : MMc y cy mL ry n) (ml : Cond.methodLinkNest own idx y host ∈ hz_nt) (hdd : dy < d) : va_CN C.R C.s C.args own idx y host cy mL ry (Cond.code y cy mL ry :: hz_wt) (rmD dy) 0 0 n := by
  obtain ⟨h1, h2, h3, h4⟩ := mm
  refine va_cnB n X.hts (hz_good h1) rfl rfl rfl (X.hC1.2 _ ml) (X.hts _ h2) h3 ?_
  have hR := X.hR
  constructor
  · show dy + 1 ≤ C.R.frames
    omega
  · show 8 + (mL + 11) + 100 * dy ≤ C.R.locals
    omega
/-- behind a call -/
theorem g_aft (X : Fx C cc nL own ret d) {r : Option Value} {τ : Sg} {a : Array Value} {H : Heap} {locs : List Loc} {ls : Array Slot} (hS : va_S C.A C.s.heap H locs) (hl : LV ls C.c.maxLocals L)
    (hr : va_Run C.p C.l C.e C.R C.s C.m C.args C.below C.meth C.c H locs C.cells C.slots 0 0 (F0 C.m pc ls st0) rest (Qx C.w r τ a) (hz_A C.w)) (k : G C (pc + 3) L (r.toList ++ rest) τ) :
    W C.p C.l C.e C.R C.s C.m C.args C.below C.meth C.c H locs C.cells C.slots C.Q (F0 C.m pc ls st0) := by
  intro T hT XS
  obtain ⟨v, st₀, t, T', Lc, h0, X', hL, e1, e2, ⟨hv, hWd, hF⟩, stp⟩ := hr T hT XS
  have hv : v = r := Outcome.returned.inj hv
  subst hv
  have hP1 : va_P C.w.D hz_cl (hz_wl C.w τ) T'.heap := by rw [e1]; exact hWd.1
  have hS1 : va_S C.A C.s.heap T'.heap (locs ++ Lc) := by
    refine ⟨?_, fun q h1 h2 => ?_, fun q hq => ?_⟩
    · rw [e1]
      exact Nat.le_trans hS.1 (by rw [← h0]; exact hF.1)
    · rw [e1, hF.2 q (by rw [h0]; exact Nat.lt_of_lt_of_le h1 hS.1) (fun z => h2 (X.hB.2.2.2.2 q z)), h0]
      exact hS.2.1 q h1 h2
    · rcases List.mem_append.mp hq with h | h
      · exact hS.2.2 q h
      · exact X.hB.2.2.2.2 _ (hL q h)
  obtain ⟨t2, a1, b1⟩ := k T'.heap (locs ++ Lc) ls hP1 hS1 hl T' rfl X'
  exact ⟨t2, stp t2 a1, b1⟩
theorem pre_of (X : Fx C cc nL own ret d) {H : Heap} {locs : List Loc} (av : List Value) (hP : va_P C.w.D hz_cl (hz_wl C.w σ) H) (hS : va_S C.A C.s.heap H locs) : PreS C.s H (va_Pc av (Wd C.w σ)) av :=
  ⟨fun a U g mk h => ⟨h.1, h.2.blind⟩, fun U hU hW => ⟨rfl, X.hB.at hP hS hU hW⟩⟩
theorem g_virt (X : Fx C cc nL own ret d) {o ci : Nat} (ho : hz_kd o = ci) (mm : MMc y cy mL ry n) (mv : MMv y ci) (ml : Cond.methodLink own idx y ∈ hz_wt) (hM : Ok C.l C.w y cy mL ry dy evy (.ref (C.w.ad o) :: as) σ fy) (hn : as.length = n) (hdd : dy < d) (hst : st0 = as.reverse ++ .ref (C.w.ad o) :: rest) (hro : (rest.map fun v => v.category).sum ≤ 8) (hd : decode cc pc = .ok (.invokevirtual idx, 3))
    {kf : R' → Option R} (k : ∀ z, GF C ev (pc + 3) L ((evy z).1.toList ++ rest) (evy z).2 (kf z)) : GF C ev pc L st0 σ (fy.bind kf) := by
  intro z hz he H locs ls hP hS hl
  obtain ⟨u, hu, hk⟩ := Option.bind_eq_some_iff.mp hz
  obtain ⟨m1, m2, T, N, m3, m4⟩ := mv
  have hat := hz_wl_at C.w σ (hz_kd_lt ho (by omega))
  rw [hz_ceO C.w σ ho m4] at hat
  have hp := pre_of X (.ref (C.w.ad o) :: as) hP hS
  have hls : ls.size = nL := hl.1.trans X.hml
  exact g_aft X hS hl (va_runV (As := as) (rest := rest) ⟨X.hx, X.hb, X.hml, X.hown, X.hts⟩ (hM u hu) ⟨cb_of X mm ml hdd, X.hts _ m1, X.hts _ m2⟩ ⟨hp.1, va_recv X.hK hP m3 hat, hp.2⟩ rfl hn hls hst (lv_room hro) hd ⟨X.hR.2.2.1, X.hR.2.2.2⟩) (k u z hk he)
theorem g_stat (X : Fx C cc nL own ret d) (mm : MMc y cy mL ry n) (ms : Cond.static y ∈ hz_wt) (ml : Cond.methodLink own idx y ∈ hz_wt) (hM : Ok C.l C.w y cy mL ry dy evy as σ fy) (hn : as.length = n) (hdd : dy < d) (hst : st0 = as.reverse ++ rest) (hro : (rest.map fun v => v.category).sum ≤ 8) (hd : decode cc pc = .ok (.invokestatic idx, 3))
    {kf : R' → Option R} (k : ∀ z, GF C ev (pc + 3) L ((evy z).1.toList ++ rest) (evy z).2 (kf z)) : GF C ev pc L st0 σ (fy.bind kf) := by
  intro z hz he H locs ls hP hS hl
  obtain ⟨u, hu, hk⟩ := Option.bind_eq_some_iff.mp hz
  have hls : ls.size = nL := hl.1.trans X.hml
  exact g_aft X hS hl (va_runS (As := as) (rest := rest) ⟨X.hx, X.hb, X.hml, X.hown, X.hts⟩ (hM u hu) ⟨cb_of X mm ml hdd, X.hts _ ms⟩ (pre_of X as hP hS) rfl hn hls hst (lv_room hro) hd ⟨X.hR.2.2.1, X.hR.2.2.2⟩) (k u z hk he)
theorem g_nest (X : Fx C cc nL own ret d) {host : String} (mm : MMc y cy mL ry n) (ms : Cond.static y ∈ hz_wt) (ml : Cond.methodLinkNest own idx y host ∈ hz_nt) (hM : Ok C.l C.w y cy mL ry dy evy as σ fy) (hn : as.length = n) (hdd : dy < d) (hst : st0 = as.reverse ++ rest) (hro : (rest.map fun v => v.category).sum ≤ 8) (hd : decode cc pc = .ok (.invokestatic idx, 3))
    {kf : R' → Option R} (k : ∀ z, GF C ev (pc + 3) L ((evy z).1.toList ++ rest) (evy z).2 (kf z)) : GF C ev pc L st0 σ (fy.bind kf) := by
  intro z hz he H locs ls hP hS hl
  obtain ⟨u, hu, hk⟩ := Option.bind_eq_some_iff.mp hz
  have hls : ls.size = nL := hl.1.trans X.hml
  exact g_aft X hS hl (va_runSN (As := as) (rest := rest) ⟨X.hx, X.hb, X.hml, X.hown, X.hts⟩ (hM u hu) ⟨cn_of X mm ml hdd, X.hts _ ms, trivial⟩ (pre_of X as hP hS) rfl hn hls hst (lv_room hro) hd ⟨X.hR.2.2.1, X.hR.2.2.2⟩) (k u z hk he)
end CALLS
/-! the same by the kind of the answer -/
section CALLK
variable {R : Type} {C : Cx} {cc : ByteArray} {nL : Nat} {own : String} {ret : Option FieldType} {d : Nat} {ev : R → Option Value × Sg} {pc : Nat} {L : List (Option Value)} {st0 : List Value} {σ : Sg}
variable {y : MethodName} {cy : ByteArray} {mL : Nat} {ry : Option FieldType} {n dy idx : Nat}
theorem g_virtI (X : Fx C cc nL own ret d) {o ci : Nat} {fy : Option (Int32 × Sg)} (as rest : List Value) (ho : hz_kd o = ci) (mm : MMc y cy mL ry n) (mv : MMv y ci) (ml : Cond.methodLink own idx y ∈ hz_wt) (hM : Ok C.l C.w y cy mL ry dy evI (.ref (C.w.ad o) :: as) σ fy) (hn : as.length = n) (hdd : dy < d) (hst : st0 = as.reverse ++ .ref (C.w.ad o) :: rest) (hro : (rest.map fun v => v.category).sum ≤ 8) (hd : decode cc pc = .ok (.invokevirtual idx, 3))
    {kf : Int32 → Sg → Option R} (k : ∀ r τ, GF C ev (pc + 3) L (.int r :: rest) τ (kf r τ)) : GF C ev pc L st0 σ (bi fy kf) := g_virt X ho mm mv ml hM hn hdd hst hro hd (fun z => k z.1 z.2)
theorem g_virtV (X : Fx C cc nL own ret d) {o ci : Nat} {fy : Option Sg} (as rest : List Value) (ho : hz_kd o = ci) (mm : MMc y cy mL ry n) (mv : MMv y ci) (ml : Cond.methodLink own idx y ∈ hz_wt) (hM : Ok C.l C.w y cy mL ry dy evV (.ref (C.w.ad o) :: as) σ fy) (hn : as.length = n) (hdd : dy < d) (hst : st0 = as.reverse ++ .ref (C.w.ad o) :: rest) (hro : (rest.map fun v => v.category).sum ≤ 8) (hd : decode cc pc = .ok (.invokevirtual idx, 3))
    {kf : Sg → Option R} (k : ∀ τ, GF C ev (pc + 3) L rest τ (kf τ)) : GF C ev pc L st0 σ (bv fy kf) := g_virt X ho mm mv ml hM hn hdd hst hro hd (fun z => k z)
theorem g_virtR (X : Fx C cc nL own ret d) {o ci : Nat} {fy : Option (Nat × Sg)} (as rest : List Value) (ho : hz_kd o = ci) (mm : MMc y cy mL ry n) (mv : MMv y ci) (ml : Cond.methodLink own idx y ∈ hz_wt) (hM : Ok C.l C.w y cy mL ry dy (evR C.w) (.ref (C.w.ad o) :: as) σ fy) (hn : as.length = n) (hdd : dy < d) (hst : st0 = as.reverse ++ .ref (C.w.ad o) :: rest) (hro : (rest.map fun v => v.category).sum ≤ 8) (hd : decode cc pc = .ok (.invokevirtual idx, 3))
    {kf : Nat → Sg → Option R} (k : ∀ r τ, GF C ev (pc + 3) L (.ref (C.w.ad r) :: rest) τ (kf r τ)) : GF C ev pc L st0 σ (br fy kf) := g_virt X ho mm mv ml hM hn hdd hst hro hd (fun z => k z.1 z.2)
theorem g_statI (X : Fx C cc nL own ret d) {fy : Option (Int32 × Sg)} (as rest : List Value) (mm : MMc y cy mL ry n) (ms : Cond.static y ∈ hz_wt) (ml : Cond.methodLink own idx y ∈ hz_wt) (hM : Ok C.l C.w y cy mL ry dy evI as σ fy) (hn : as.length = n) (hdd : dy < d) (hst : st0 = as.reverse ++ rest) (hro : (rest.map fun v => v.category).sum ≤ 8) (hd : decode cc pc = .ok (.invokestatic idx, 3))
    {kf : Int32 → Sg → Option R} (k : ∀ r τ, GF C ev (pc + 3) L (.int r :: rest) τ (kf r τ)) : GF C ev pc L st0 σ (bi fy kf) := g_stat X mm ms ml hM hn hdd hst hro hd (fun z => k z.1 z.2)
theorem g_statV (X : Fx C cc nL own ret d) {fy : Option Sg} (as rest : List Value) (mm : MMc y cy mL ry n) (ms : Cond.static y ∈ hz_wt) (ml : Cond.methodLink own idx y ∈ hz_wt) (hM : Ok C.l C.w y cy mL ry dy evV as σ fy) (hn : as.length = n) (hdd : dy < d) (hst : st0 = as.reverse ++ rest) (hro : (rest.map fun v => v.category).sum ≤ 8) (hd : decode cc pc = .ok (.invokestatic idx, 3))
    {kf : Sg → Option R} (k : ∀ τ, GF C ev (pc + 3) L rest τ (kf τ)) : GF C ev pc L st0 σ (bv fy kf) := g_stat X mm ms ml hM hn hdd hst hro hd (fun z => k z)
theorem g_nestI (X : Fx C cc nL own ret d) {host : String} {fy : Option (Int32 × Sg)} (as rest : List Value) (mm : MMc y cy mL ry n) (ms : Cond.static y ∈ hz_wt) (ml : Cond.methodLinkNest own idx y host ∈ hz_nt) (hM : Ok C.l C.w y cy mL ry dy evI as σ fy) (hn : as.length = n) (hdd : dy < d) (hst : st0 = as.reverse ++ rest) (hro : (rest.map fun v => v.category).sum ≤ 8) (hd : decode cc pc = .ok (.invokestatic idx, 3))
    {kf : Int32 → Sg → Option R} (k : ∀ r τ, GF C ev (pc + 3) L (.int r :: rest) τ (kf r τ)) : GF C ev pc L st0 σ (bi fy kf) := g_nest X mm ms ml hM hn hdd hst hro hd (fun z => k z.1 z.2)
end CALLK
