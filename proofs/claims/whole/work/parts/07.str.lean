/-! rows on the five texts: a text is its number i < nJS; its bytes' row likewise -/
/-- the byte j of the text i, as it lies in the row -/
def sbt (i : Nat) (j : Int32) : Int32 := (bytJS.getD i []).getD j.toNatClampNeg 0
def gch {R : Type} (x : Int32) (f : Option R) : Option R := if narrow .char (.int x) = .int x then f else none
def gby {R : Type} (x : Int32) (f : Option R) : Option R := if narrow .byte (.int x) = .int x then f else none
section ROWS3
variable {R R' : Type} {C : Cx} {cc : ByteArray} {nL : Nat} {own : String} {ret : Option FieldType} {d : Nat} {ev : R → Option Value × Sg} {pc : Nat} {L : List (Option Value)} {st st0 rest : List Value} {σ : Sg} {f f1 f2 : Option R}
theorem g_ldcS (X : Fx C cc nL own ret d) (i : Nat) {idx : Nat} {tx : String} (hi : ownJS[i]? = some (own, idx, tx)) (hd : decode cc pc = .ok (.ldc idx, 2)) (k : GF C ev (pc + 2) L (.ref (C.w.aK i) :: st) σ f) : GF C ev pc L st σ f := fun z hz he H locs ls hP hS hl => va_ldcS X.hx X.hb X.hown (X.hC1.1 i _ hi) hd (k z hz he H locs ls hP hS hl)
theorem g_sval (X : Fx C cc nL own ret d) {i idx : Nat} (hi : i < nJS) (hw : Cond.fieldLink own idx "java/lang/String" "value" "[B" ∈ hz_wt) (hd : decode cc pc = .ok (.getfield idx, 3)) (k : GF C ev (pc + 3) L (.ref (C.w.aV i) :: st) σ f) : GF C ev pc L (.ref (C.w.aK i) :: st) σ f := fun z hz he H locs ls hP hS hl => vk_getf X.hx X.hb (X.hC.2.2.2.2.2.2.1 i hi).2.2.1 hS X.hown (X.hts _ hw) (fun x h => h) hd (k z hz he H locs ls hP hS hl)
theorem g_scod (X : Fx C cc nL own ret d) {i idx : Nat} (hi : i < nJS) (hw : Cond.fieldLink own idx "java/lang/String" "coder" "B" ∈ hz_wt) (hd : decode cc pc = .ok (.getfield idx, 3)) (k : GF C ev (pc + 3) L (.int 0 :: st) σ f) : GF C ev pc L (.ref (C.w.aK i) :: st) σ f := fun z hz he H locs ls hP hS hl => vk_getf X.hx X.hb (X.hC.2.2.2.2.2.2.1 i hi).2.1 hS X.hown (X.hts _ hw) (fun x h => h) hd (k z hz he H locs ls hP hS hl)
theorem g_cmpS (X : Fx C cc nL own ret d) {idx : Nat} (hw : Cond.fieldLink own idx "java/lang/String" "COMPACT_STRINGS" "Z" ∈ hz_wt) (hd : decode cc pc = .ok (.getstatic idx, 3)) (k : GF C ev (pc + 3) L (.int 1 :: st) σ f) : GF C ev pc L st σ f := fun z hz he H locs ls hP hS hl => va_gets X.hx X.hb X.hC.2.2.2.2.1 hS X.hown (X.hts _ hw) (fun x h => h) hd (k z hz he H locs ls hP hS hl)
theorem g_fmtS (X : Fx C cc nL own ret d) {idx : Nat} (hw : Cond.fieldLink own idx "jdk/internal/util/Preconditions" "SIOOBE_FORMATTER" "Ljava/util/function/BiFunction;" ∈ hz_wt) (hd : decode cc pc = .ok (.getstatic idx, 3)) (k : GF C ev (pc + 3) L (va_rf C.w.fm :: st) σ f) : GF C ev pc L st σ f := fun z hz he H locs ls hP hS hl => va_gets X.hx X.hb X.hC.2.2.2.2.2.1 hS X.hown (X.hts _ hw) (fun x h => h) hd (k z hz he H locs ls hP hS hl)
theorem g_blen (X : Fx C cc nL own ret d) {i : Nat} (hi : i < nJS) (hd : decode cc pc = .ok (.arraylength, 1)) (k : GF C ev (pc + 1) L (.int (nI (lenJS.getD i 0)) :: st) σ f) : GF C ev pc L (.ref (C.w.aV i) :: st) σ f := fun z hz he H locs ls hP hS hl => va_tlen X.hx X.hb (X.hC.2.2.2.2.2.2.1 i hi).2.2.2 hS rfl hd (k z hz he H locs ls hP hS hl)
theorem g_bald (X : Fx C cc nL own ret d) {i : Nat} {j : Int32} (hi : i < nJS) (hd : decode cc pc = .ok (.baload, 1)) (k : GF C ev (pc + 1) L (.int (sbt i j) :: st) σ f) : GF C ev pc L (.int j :: .ref (C.w.aV i) :: st) σ (gd j (lenJS.getD i 0) f) := gf_ite (fun _ => gf_no) (fun hin z hz he H locs ls hP hS hl => va_tb X.hx X.hb (X.hC.2.2.2.2.2.2.1 i hi).2.2.2 hS hin rfl hd (k z hz he H locs ls hP hS hl))
/-- (byte) x -/
def i8 (x : Int32) : Int32 := x.toInt8.toInt32
theorem g_i2b (X : Fx C cc nL own ret d) {x : Int32} (hd : decode cc pc = .ok (.i2b, 1)) (k : GF C ev (pc + 1) L (.int (i8 x) :: st) σ f) : GF C ev pc L (.int x :: st) σ f := fun z hz he H locs ls hP hS hl => lv_i2b X.hx X.hb hd rfl (k z hz he H locs ls hP hS hl)
variable {y : MethodName} {cy : ByteArray} {mL : Nat} {ry : Option FieldType} {n dy idx : Nat} {evy : R' → Option Value × Sg} {as : List Value} {fy : Option R'}
theorem g_vstr (X : Fx C cc nL own ret d) {i : Nat} (hi : i < nJS) (mm : MMc y cy mL ry n) (mv : Cond.instanceMethod y ∈ hz_wt ∧ Cond.selects "java/lang/String" y y ∈ hz_wt) (ml : Cond.methodLink own idx y ∈ hz_wt) (hM : Ok C.l C.w y cy mL ry dy evy (.ref (C.w.aK i) :: as) σ fy) (hn : as.length = n) (hdd : dy < d) (hst : st0 = as.reverse ++ .ref (C.w.aK i) :: rest) (hro : (rest.map fun v => v.category).sum ≤ 8) (hd : decode cc pc = .ok (.invokevirtual idx, 3))
    {kf : R' → Option R} (k : ∀ z, GF C ev (pc + 3) L ((evy z).1.toList ++ rest) (evy z).2 (kf z)) : GF C ev pc L st0 σ (fy.bind kf) := by
  intro z hz he H locs ls hP hS hl
  obtain ⟨u, hu, hk⟩ := Option.bind_eq_some_iff.mp hz
  have hp := pre_of X (.ref (C.w.aK i) :: as) hP hS
  have hls : ls.size = nL := hl.1.trans X.hml
  exact g_aft X hS hl (va_runV (As := as) (rest := rest) ⟨X.hx, X.hb, X.hml, X.hown, X.hts⟩ (hM u hu) ⟨cb_of X mm ml hdd, X.hts _ mv.1, X.hts _ mv.2⟩ ⟨hp.1, vk_recv X.hC.2.2.2.2.2.2 hi hS, hp.2⟩ rfl hn hls hst (lv_room hro) hd ⟨X.hR.2.2.1, X.hR.2.2.2⟩) (k u z hk he)
end ROWS3
section ROWS4
variable {R : Type} {C : Cx} {cc : ByteArray} {nL : Nat} {own : String} {ret : Option FieldType} {d : Nat} {ev : R → Option Value × Sg} {pc : Nat} {L : List (Option Value)} {st0 : List Value} {σ : Sg}
variable {y : MethodName} {cy : ByteArray} {mL : Nat} {ry : Option FieldType} {n dy idx : Nat}
theorem g_vstrI (X : Fx C cc nL own ret d) {i : Nat} {fy : Option (Int32 × Sg)} (as rest : List Value) (hi : i < nJS) (mm : MMc y cy mL ry n) (mv : Cond.instanceMethod y ∈ hz_wt ∧ Cond.selects "java/lang/String" y y ∈ hz_wt) (ml : Cond.methodLink own idx y ∈ hz_wt) (hM : Ok C.l C.w y cy mL ry dy evI (.ref (C.w.aK i) :: as) σ fy) (hn : as.length = n) (hdd : dy < d) (hst : st0 = as.reverse ++ .ref (C.w.aK i) :: rest) (hro : (rest.map fun v => v.category).sum ≤ 8) (hd : decode cc pc = .ok (.invokevirtual idx, 3))
    {kf : Int32 → Sg → Option R} (k : ∀ r τ, GF C ev (pc + 3) L (.int r :: rest) τ (kf r τ)) : GF C ev pc L st0 σ (bi fy kf) := g_vstr X hi mm mv ml hM hn hdd hst hro hd (fun z => k z.1 z.2)
theorem g_statS (X : Fx C cc nL own ret d) {fy : Option (Nat × Sg)} (as rest : List Value) (mm : MMc y cy mL ry n) (ms : Cond.static y ∈ hz_wt) (ml : Cond.methodLink own idx y ∈ hz_wt) (hM : Ok C.l C.w y cy mL ry dy (evS C.w) as σ fy) (hn : as.length = n) (hdd : dy < d) (hst : st0 = as.reverse ++ rest) (hro : (rest.map fun v => v.category).sum ≤ 8) (hd : decode cc pc = .ok (.invokestatic idx, 3))
    {kf : Nat → Sg → Option R} (k : ∀ r τ, GF C ev (pc + 3) L (.ref (C.w.aK r) :: rest) τ (kf r τ)) : GF C ev pc L st0 σ (br fy kf) := g_stat X mm ms ml hM hn hdd hst hro hd (fun z => k z.1 z.2)
end ROWS4
section ENDS2
variable {C : Cx} {cc : ByteArray} {nL : Nat} {own : String} {d : Nat} {pc : Nat} {L : List (Option Value)} {st : List Value} {σ : Sg}
theorem g_sret {nm : String} (X : Fx C cc nL own (some (.object nm)) d) (E : Ex C) {i : Nat} (hd : decode cc pc = .ok (.areturn, 1)) : GF C (evS C.w) pc L [.ref (C.w.aK i)] σ (some (i, σ)) := by
  intro z hz he H locs ls hP hS hl
  cases hz
  have h1 : some (Value.ref (C.w.aK i)) = C.r := congrArg Prod.fst he
  have h2 : σ = C.τ := congrArg Prod.snd he
  exact g_fin E hS fun hf => W.aret X.hx X.hb X.hr (Or.inl ⟨_, rfl⟩) (Or.inr ⟨_, rfl⟩) (g_end X E h1.symm h2.symm hP hS) hf hd X.hlk
theorem g_cret (X : Fx C cc nL own (some .char) d) (E : Ex C) {x : Int32} (hd : decode cc pc = .ok (.ireturn, 1)) : GF C evI pc L [.int x] σ (gch x (some (x, σ))) := gf_ite (fun h => by
  intro z hz he H locs ls hP hS hl
  cases hz
  have h1 : some (Value.int x) = C.r := congrArg Prod.fst he
  have h2 : σ = C.τ := congrArg Prod.snd he
  exact g_fin E hS fun hf => W.zret X.hx X.hb X.hr h (g_end X E h1.symm h2.symm hP hS) hf hd X.hlk) (fun _ => gf_no)
theorem g_bret (X : Fx C cc nL own (some .byte) d) (E : Ex C) {x : Int32} (hd : decode cc pc = .ok (.ireturn, 1)) : GF C evI pc L [.int x] σ (gby x (some (x, σ))) := gf_ite (fun h => by
  intro z hz he H locs ls hP hS hl
  cases hz
  have h1 : some (Value.int x) = C.r := congrArg Prod.fst he
  have h2 : σ = C.τ := congrArg Prod.snd he
  exact g_fin E hS fun hf => W.zret X.hx X.hb X.hr h (g_end X E h1.symm h2.symm hP hS) hf hd X.hlk) (fun _ => gf_no)
end ENDS2
