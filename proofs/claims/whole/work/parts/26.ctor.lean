def gv {R : Type} (x v : Int32) (f : Option R) : Option R := if x = v then f else none
section CROWS2
variable {C : Cx} {P : Gt → Prop} {cc : ByteArray} {nL : Nat} {own : String} {d : Nat} {pc : Nat} {L : List (Option Value)} {st rest st0 : List Value} {k m n : Nat} {ρ : Rh} {σ : Sg} {f : Option Gt}
theorem rm_of {mc ms a b d0 : Nat} (h : C.R = rmC d0 mc ms) (h1 : a ≤ mc) (h2 : b ≤ ms) : a ≤ C.R.cells ∧ b ≤ C.R.slots := by rw [h]; exact ⟨h1, h2⟩
theorem c_imulv (X : FxC C cc nL own d) {x y : Int32} (v : Int32) (hv : x * y = v) (hd : decode cc pc = .ok (.imul, 1)) (kk : GP C P (pc + 1) L (.int v :: st) k m n ρ σ f) : GP C P pc L (.int y :: .int x :: st) k m n ρ σ f := c_imul X hd (by rw [hv]; exact kk)
theorem c_maxv (X : FxC C cc nL own d) {x y : Int32} {idx : Nat} (v : Int32) (hv : (if x < y then y else x) = v) (hw : Cond.methodLink own idx Lib.Math.max.name ∈ hz_wt) (hq : Cond.static Lib.Math.max.name ∈ hz_wt ∧ Cond.initialized "java/lang/Math" ∈ hz_wt ∧ Cond.code Lib.Math.max.name Lib.Math.max.code 2 (some .int) ∈ hz_wt) (h1 : 0 < d) (hro : (st.map fun v => v.category).sum ≤ 8) (hk : k ≤ C.R.cells ∧ m ≤ C.R.slots) (hd : decode cc pc = .ok (.invokestatic idx, 3)) (kk : GP C P (pc + 3) L (.int v :: st) k m n ρ σ f) : GP C P pc L (.int y :: .int x :: st) k m n ρ σ f := c_max X hw hq h1 hro hk hd (by rw [hv]; exact kk)
theorem c_getIv (X : FxC C cc nL own d) {idx ci j o : Nat} {v : Int32} (fl : FLk own idx ci j) (hb : (hz_bs ci)[j]? = some false) (ho : hz_kd o = ci) (hd : decode cc pc = .ok (.getfield idx, 3)) (kk : GP C P (pc + 3) L (.int v :: st) k m n ρ σ f) : GP C P pc L (.ref (C.w.ad o) :: st) k m n ρ σ (glt o n (gv (σ o j) v f)) := gp_lt (fun hon => gp_ite (fun hv => fun z hz he => c_getI (P := P) (f := f) X fl hb ho hd (by rw [hv]; exact kk) z (by rw [glt, if_pos hon]; exact hz) he))
end CROWS2
theorem hz_obj : Cond.instanceMethod Lib.objectInit ∈ hz_wt ∧ Cond.code Lib.objectInit ⟨#[0xb1]⟩ 1 none ∈ hz_wt := ⟨hz_in 162 (by decide +kernel) (by decide +kernel), hz_in 163 (by decide +kernel) (by decide +kernel)⟩
theorem hz_max : Cond.static Lib.Math.max.name ∈ hz_wt ∧ Cond.initialized "java/lang/Math" ∈ hz_wt ∧ Cond.code Lib.Math.max.name Lib.Math.max.code 2 (some .int) ∈ hz_wt := ⟨hz_in 271 (by decide +kernel) (by decide +kernel), hz_in 140 (by decide +kernel) (by decide +kernel), hz_in 272 (by decide +kernel) (by decide +kernel)⟩
theorem hz_arI : Cond.arrayClass .int ∈ hz_wt := hz_in 231 (by decide +kernel) (by decide +kernel)
def yH_init : MethodName := ⟨"LastWordHill", "<init>", "()V"⟩
abbrev cH_init : ByteArray := prog_1_method_1_code
theorem dH_init_0 : decode cH_init 0 = .ok (.aload_n 0, 1) := by decide +kernel
theorem dH_init_1 : decode cH_init 1 = .ok (.invokespecial 3, 3) := by decide +kernel
theorem mo_H_3 : Cond.methodLink "LastWordHill" 3 Lib.objectInit ∈ hz_wt := hz_in 161 (by decide +kernel) (by decide +kernel)
theorem dH_init_4 : decode cH_init 4 = .ok (.aload_n 0, 1) := by decide +kernel
theorem dH_init_5 : decode cH_init 5 = .ok (.new 9, 3) := by decide +kernel
theorem nw_H_9 : NWc "LastWordHill" 9 5 := ⟨_, _, _, _, rfl, nL5, nY5, hz_in 164 (by decide +kernel) (by decide +kernel), hz_in 165 (by decide +kernel) (by decide +kernel), hz_in 135 (by decide +kernel) (by decide +kernel), by decide +kernel, by decide, by decide⟩
theorem dH_init_8 : decode cH_init 8 = .ok (.dup, 1) := by decide +kernel
theorem dH_init_9 : decode cH_init 9 = .ok (.invokespecial 11, 3) := by decide +kernel
def ySc_init : MethodName := ⟨"LastWordHill$Scene", "<init>", "()V"⟩
abbrev cSc_init : ByteArray := prog_7_method_1_code
theorem dSc_init_0 : decode cSc_init 0 = .ok (.aload_n 0, 1) := by decide +kernel
theorem dSc_init_1 : decode cSc_init 1 = .ok (.invokespecial 3, 3) := by decide +kernel
theorem mo_Sc_3 : Cond.methodLink "LastWordHill$Scene" 3 Lib.objectInit ∈ hz_wt := hz_in 169 (by decide +kernel) (by decide +kernel)
theorem dSc_init_4 : decode cSc_init 4 = .ok (.aload_n 0, 1) := by decide +kernel
theorem dSc_init_5 : decode cSc_init 5 = .ok (.bipush 80, 2) := by decide +kernel
theorem dSc_init_7 : decode cSc_init 7 = .ok (.newarray .int, 2) := by decide +kernel
theorem dSc_init_9 : decode cSc_init 9 = .ok (.putfield 9, 3) := by decide +kernel
theorem ff_5_0 : FLf "LastWordHill$Scene" 5 0 (.array .int) := ⟨_, _, _, _, rfl, nY5, nN5, by decide, by decide, by decide⟩
theorem dSc_init_12 : decode cSc_init 12 = .ok (.aload_n 0, 1) := by decide +kernel
theorem dSc_init_13 : decode cSc_init 13 = .ok (.iconst (-1), 1) := by decide +kernel
theorem dSc_init_14 : decode cSc_init 14 = .ok (.putfield 15, 3) := by decide +kernel
theorem dSc_init_17 : decode cSc_init 17 = .ok (.aload_n 0, 1) := by decide +kernel
theorem dSc_init_18 : decode cSc_init 18 = .ok (.iconst (-1), 1) := by decide +kernel
theorem dSc_init_19 : decode cSc_init 19 = .ok (.putfield 19, 3) := by decide +kernel
theorem dSc_init_22 : decode cSc_init 22 = .ok (.aload_n 0, 1) := by decide +kernel
theorem dSc_init_23 : decode cSc_init 23 = .ok (.iconst (-1), 1) := by decide +kernel
theorem dSc_init_24 : decode cSc_init 24 = .ok (.putfield 22, 3) := by decide +kernel
theorem dSc_init_27 : decode cSc_init 27 = .ok (.aload_n 0, 1) := by decide +kernel
theorem dSc_init_28 : decode cSc_init 28 = .ok (.iconst (-1), 1) := by decide +kernel
theorem dSc_init_29 : decode cSc_init 29 = .ok (.putfield 25, 3) := by decide +kernel
theorem dSc_init_32 : decode cSc_init 32 = .ok (.aload_n 0, 1) := by decide +kernel
theorem dSc_init_33 : decode cSc_init 33 = .ok (.bipush 40, 2) := by decide +kernel
theorem dSc_init_35 : decode cSc_init 35 = .ok (.putfield 28, 3) := by decide +kernel
theorem dSc_init_38 : decode cSc_init 38 = .ok (.return_, 1) := by decide +kernel
theorem mm_Sc_init : MMc ySc_init cSc_init 1 none 0 := ⟨hz_in 168 (by decide +kernel) (by decide +kernel), hz_in 135 (by decide +kernel) (by decide +kernel), by decide +kernel, by decide⟩
theorem mi_Sc_init : Cond.instanceMethod ySc_init ∈ hz_wt := hz_in 167 (by decide +kernel) (by decide +kernel)
theorem ml_H_11 : Cond.methodLinkNest "LastWordHill" 11 ySc_init "LastWordHill" ∈ hz_nt := hz_inN 166 (by decide +kernel) (by decide +kernel)
theorem dH_init_12 : decode cH_init 12 = .ok (.putfield 12, 3) := by decide +kernel
theorem ff_11_0 : FLf "LastWordHill" 11 0 (.object "LastWordHill$Scene") := ⟨_, _, _, _, rfl, nY11, nN11, by decide, by decide, by decide⟩
theorem dH_init_15 : decode cH_init 15 = .ok (.aload_n 0, 1) := by decide +kernel
theorem dH_init_16 : decode cH_init 16 = .ok (.new 9, 3) := by decide +kernel
theorem dH_init_19 : decode cH_init 19 = .ok (.dup, 1) := by decide +kernel
theorem dH_init_20 : decode cH_init 20 = .ok (.invokespecial 11, 3) := by decide +kernel
theorem dH_init_23 : decode cH_init 23 = .ok (.putfield 16, 3) := by decide +kernel
theorem ff_11_1 : FLf "LastWordHill" 11 1 (.object "LastWordHill$Scene") := ⟨_, _, _, _, rfl, nY11, nN11, by decide, by decide, by decide⟩
theorem dH_init_26 : decode cH_init 26 = .ok (.aload_n 0, 1) := by decide +kernel
theorem dH_init_27 : decode cH_init 27 = .ok (.new 19, 3) := by decide +kernel
theorem nw_H_19 : NWc "LastWordHill" 19 3 := ⟨_, _, _, _, rfl, nL3, nY3, hz_in 232 (by decide +kernel) (by decide +kernel), hz_in 233 (by decide +kernel) (by decide +kernel), hz_in 136 (by decide +kernel) (by decide +kernel), by decide +kernel, by decide, by decide⟩
theorem dH_init_30 : decode cH_init 30 = .ok (.dup, 1) := by decide +kernel
theorem dH_init_31 : decode cH_init 31 = .ok (.invokespecial 21, 3) := by decide +kernel
def yPa_init : MethodName := ⟨"LastWordHill$Past", "<init>", "()V"⟩
abbrev cPa_init : ByteArray := prog_5_method_1_code
theorem dPa_init_0 : decode cPa_init 0 = .ok (.aload_n 0, 1) := by decide +kernel
theorem dPa_init_1 : decode cPa_init 1 = .ok (.invokespecial 3, 3) := by decide +kernel
theorem mo_Pa_3 : Cond.methodLink "LastWordHill$Past" 3 Lib.objectInit ∈ hz_wt := hz_in 237 (by decide +kernel) (by decide +kernel)
theorem dPa_init_4 : decode cPa_init 4 = .ok (.aload_n 0, 1) := by decide +kernel
theorem dPa_init_5 : decode cPa_init 5 = .ok (.bipush 6, 2) := by decide +kernel
theorem dPa_init_7 : decode cPa_init 7 = .ok (.anewarray 9, 3) := by decide +kernel
theorem cl_Pa_9 : Cond.classLink "LastWordHill$Past" 9 "LastWordHill$Scene" ∈ hz_wt := hz_in 238 (by decide +kernel) (by decide +kernel)
theorem dPa_init_10 : decode cPa_init 10 = .ok (.putfield 11, 3) := by decide +kernel
theorem ff_3_0 : FLf "LastWordHill$Past" 3 0 (.array (.object "LastWordHill$Scene")) := ⟨_, _, _, _, rfl, nY3, nN3, by decide, by decide, by decide⟩
theorem dPa_init_13 : decode cPa_init 13 = .ok (.iconst 0, 1) := by decide +kernel
theorem dPa_init_14 : decode cPa_init 14 = .ok (.istore_n 1, 1) := by decide +kernel
theorem dPa_init_15 : decode cPa_init 15 = .ok (.iload_n 1, 1) := by decide +kernel
theorem dPa_init_16 : decode cPa_init 16 = .ok (.bipush 6, 2) := by decide +kernel
theorem dPa_init_18 : decode cPa_init 18 = .ok (.if_icmp .ge 22, 3) := by decide +kernel
theorem dPa_init_21 : decode cPa_init 21 = .ok (.aload_n 0, 1) := by decide +kernel
theorem dPa_init_22 : decode cPa_init 22 = .ok (.getfield 11, 3) := by decide +kernel
theorem dPa_init_25 : decode cPa_init 25 = .ok (.iload_n 1, 1) := by decide +kernel
theorem dPa_init_26 : decode cPa_init 26 = .ok (.new 9, 3) := by decide +kernel
theorem nw_Pa_9 : NWc "LastWordHill$Past" 9 5 := ⟨_, _, _, _, rfl, nL5, nY5, hz_in 238 (by decide +kernel) (by decide +kernel), hz_in 165 (by decide +kernel) (by decide +kernel), hz_in 135 (by decide +kernel) (by decide +kernel), by decide +kernel, by decide, by decide⟩
theorem dPa_init_29 : decode cPa_init 29 = .ok (.dup, 1) := by decide +kernel
theorem dPa_init_30 : decode cPa_init 30 = .ok (.invokespecial 17, 3) := by decide +kernel
theorem ml_Pa_17 : Cond.methodLinkNest "LastWordHill$Past" 17 ySc_init "LastWordHill" ∈ hz_nt := hz_inN 240 (by decide +kernel) (by decide +kernel)
theorem dPa_init_33 : decode cPa_init 33 = .ok (.aastore, 1) := by decide +kernel
theorem dPa_init_34 : decode cPa_init 34 = .ok (.iinc 1 1, 3) := by decide +kernel
theorem dPa_init_37 : decode cPa_init 37 = .ok (.goto (-22), 3) := by decide +kernel
theorem dPa_init_40 : decode cPa_init 40 = .ok (.return_, 1) := by decide +kernel
theorem mm_Pa_init : MMc yPa_init cPa_init 2 none 0 := ⟨hz_in 236 (by decide +kernel) (by decide +kernel), hz_in 136 (by decide +kernel) (by decide +kernel), by decide +kernel, by decide⟩
theorem mi_Pa_init : Cond.instanceMethod yPa_init ∈ hz_wt := hz_in 235 (by decide +kernel) (by decide +kernel)
theorem ml_H_21 : Cond.methodLink "LastWordHill" 21 yPa_init ∈ hz_wt := hz_in 234 (by decide +kernel) (by decide +kernel)
theorem dH_init_34 : decode cH_init 34 = .ok (.putfield 22, 3) := by decide +kernel
theorem ff_11_2 : FLf "LastWordHill" 11 2 (.object "LastWordHill$Past") := ⟨_, _, _, _, rfl, nY11, nN11, by decide, by decide, by decide⟩
theorem dH_init_37 : decode cH_init 37 = .ok (.aload_n 0, 1) := by decide +kernel
theorem dH_init_38 : decode cH_init 38 = .ok (.new 26, 3) := by decide +kernel
theorem nw_H_26 : NWc "LastWordHill" 26 8 := ⟨_, _, _, _, rfl, nL8, nY8, hz_in 252 (by decide +kernel) (by decide +kernel), hz_in 253 (by decide +kernel) (by decide +kernel), hz_in 137 (by decide +kernel) (by decide +kernel), by decide +kernel, by decide, by decide⟩
theorem dH_init_41 : decode cH_init 41 = .ok (.dup, 1) := by decide +kernel
theorem dH_init_42 : decode cH_init 42 = .ok (.invokespecial 28, 3) := by decide +kernel
def yTe_init : MethodName := ⟨"LastWordHill$Texts", "<init>", "()V"⟩
abbrev cTe_init : ByteArray := prog_10_method_1_code
theorem dTe_init_0 : decode cTe_init 0 = .ok (.aload_n 0, 1) := by decide +kernel
theorem dTe_init_1 : decode cTe_init 1 = .ok (.invokespecial 3, 3) := by decide +kernel
theorem mo_Te_3 : Cond.methodLink "LastWordHill$Texts" 3 Lib.objectInit ∈ hz_wt := hz_in 257 (by decide +kernel) (by decide +kernel)
theorem dTe_init_4 : decode cTe_init 4 = .ok (.aload_n 0, 1) := by decide +kernel
theorem dTe_init_5 : decode cTe_init 5 = .ok (.new 9, 3) := by decide +kernel
theorem nw_Te_9 : NWc "LastWordHill$Texts" 9 1 := ⟨_, _, _, _, rfl, nL1, nY1, hz_in 258 (by decide +kernel) (by decide +kernel), hz_in 259 (by decide +kernel) (by decide +kernel), hz_in 138 (by decide +kernel) (by decide +kernel), by decide +kernel, by decide, by decide⟩
theorem dTe_init_8 : decode cTe_init 8 = .ok (.dup, 1) := by decide +kernel
theorem dTe_init_9 : decode cTe_init 9 = .ok (.invokespecial 11, 3) := by decide +kernel
def yLa_init : MethodName := ⟨"LastWordHill$Law", "<init>", "()V"⟩
abbrev cLa_init : ByteArray := prog_3_method_1_code
theorem dLa_init_0 : decode cLa_init 0 = .ok (.aload_n 0, 1) := by decide +kernel
theorem dLa_init_1 : decode cLa_init 1 = .ok (.invokespecial 3, 3) := by decide +kernel
theorem mo_La_3 : Cond.methodLink "LastWordHill$Law" 3 Lib.objectInit ∈ hz_wt := hz_in 263 (by decide +kernel) (by decide +kernel)
theorem dLa_init_4 : decode cLa_init 4 = .ok (.aload_n 0, 1) := by decide +kernel
theorem dLa_init_5 : decode cLa_init 5 = .ok (.new 9, 3) := by decide +kernel
theorem nw_La_9 : NWc "LastWordHill$Law" 9 7 := ⟨_, _, _, _, rfl, nL7, nY7, hz_in 264 (by decide +kernel) (by decide +kernel), hz_in 265 (by decide +kernel) (by decide +kernel), hz_in 139 (by decide +kernel) (by decide +kernel), by decide +kernel, by decide, by decide⟩
theorem dLa_init_8 : decode cLa_init 8 = .ok (.dup, 1) := by decide +kernel
theorem dLa_init_9 : decode cLa_init 9 = .ok (.iconst 4, 1) := by decide +kernel
theorem dLa_init_10 : decode cLa_init 10 = .ok (.bipush 16, 2) := by decide +kernel
theorem dLa_init_12 : decode cLa_init 12 = .ok (.invokespecial 11, 3) := by decide +kernel
def yTa_init : MethodName := ⟨"LastWordHill$Table", "<init>", "(II)V"⟩
abbrev cTa_init : ByteArray := prog_9_method_1_code
theorem dTa_init_0 : decode cTa_init 0 = .ok (.aload_n 0, 1) := by decide +kernel
theorem dTa_init_1 : decode cTa_init 1 = .ok (.invokespecial 3, 3) := by decide +kernel
theorem mo_Ta_3 : Cond.methodLink "LastWordHill$Table" 3 Lib.objectInit ∈ hz_wt := hz_in 269 (by decide +kernel) (by decide +kernel)
theorem dTa_init_4 : decode cTa_init 4 = .ok (.aload_n 0, 1) := by decide +kernel
theorem dTa_init_5 : decode cTa_init 5 = .ok (.iload_n 1, 1) := by decide +kernel
theorem dTa_init_6 : decode cTa_init 6 = .ok (.iconst 0, 1) := by decide +kernel
theorem dTa_init_7 : decode cTa_init 7 = .ok (.invokestatic 9, 3) := by decide +kernel
theorem mx_Ta_9 : Cond.methodLink "LastWordHill$Table" 9 Lib.Math.max.name ∈ hz_wt := hz_in 270 (by decide +kernel) (by decide +kernel)
theorem dTa_init_10 : decode cTa_init 10 = .ok (.putfield 15, 3) := by decide +kernel
theorem ff_7_0 : FLf "LastWordHill$Table" 7 0 .int := ⟨_, _, _, _, rfl, nY7, nN7, by decide, by decide, by decide⟩
theorem dTa_init_13 : decode cTa_init 13 = .ok (.aload_n 0, 1) := by decide +kernel
theorem dTa_init_14 : decode cTa_init 14 = .ok (.iload_n 2, 1) := by decide +kernel
theorem dTa_init_15 : decode cTa_init 15 = .ok (.iconst 0, 1) := by decide +kernel
theorem dTa_init_16 : decode cTa_init 16 = .ok (.invokestatic 9, 3) := by decide +kernel
theorem dTa_init_19 : decode cTa_init 19 = .ok (.putfield 21, 3) := by decide +kernel
theorem ff_7_1 : FLf "LastWordHill$Table" 7 1 .int := ⟨_, _, _, _, rfl, nY7, nN7, by decide, by decide, by decide⟩
theorem dTa_init_22 : decode cTa_init 22 = .ok (.aload_n 0, 1) := by decide +kernel
theorem dTa_init_23 : decode cTa_init 23 = .ok (.aload_n 0, 1) := by decide +kernel
theorem dTa_init_24 : decode cTa_init 24 = .ok (.getfield 15, 3) := by decide +kernel
theorem dTa_init_27 : decode cTa_init 27 = .ok (.aload_n 0, 1) := by decide +kernel
theorem dTa_init_28 : decode cTa_init 28 = .ok (.getfield 21, 3) := by decide +kernel
theorem dTa_init_31 : decode cTa_init 31 = .ok (.imul, 1) := by decide +kernel
theorem dTa_init_32 : decode cTa_init 32 = .ok (.newarray .int, 2) := by decide +kernel
theorem dTa_init_34 : decode cTa_init 34 = .ok (.putfield 24, 3) := by decide +kernel
theorem ff_7_2 : FLf "LastWordHill$Table" 7 2 (.array .int) := ⟨_, _, _, _, rfl, nY7, nN7, by decide, by decide, by decide⟩
theorem dTa_init_37 : decode cTa_init 37 = .ok (.return_, 1) := by decide +kernel
theorem mm_Ta_init : MMc yTa_init cTa_init 3 none 2 := ⟨hz_in 268 (by decide +kernel) (by decide +kernel), hz_in 139 (by decide +kernel) (by decide +kernel), by decide +kernel, by decide⟩
theorem mi_Ta_init : Cond.instanceMethod yTa_init ∈ hz_wt := hz_in 267 (by decide +kernel) (by decide +kernel)
theorem ml_La_11 : Cond.methodLink "LastWordHill$Law" 11 yTa_init ∈ hz_wt := hz_in 266 (by decide +kernel) (by decide +kernel)
theorem dLa_init_15 : decode cLa_init 15 = .ok (.putfield 14, 3) := by decide +kernel
theorem ff_1_0 : FLf "LastWordHill$Law" 1 0 (.object "LastWordHill$Table") := ⟨_, _, _, _, rfl, nY1, nN1, by decide, by decide, by decide⟩
theorem dLa_init_18 : decode cLa_init 18 = .ok (.aload_n 0, 1) := by decide +kernel
theorem dLa_init_19 : decode cLa_init 19 = .ok (.sipush 400, 3) := by decide +kernel
theorem dLa_init_22 : decode cLa_init 22 = .ok (.newarray .int, 2) := by decide +kernel
theorem dLa_init_24 : decode cLa_init 24 = .ok (.putfield 20, 3) := by decide +kernel
theorem ff_1_1 : FLf "LastWordHill$Law" 1 1 (.array .int) := ⟨_, _, _, _, rfl, nY1, nN1, by decide, by decide, by decide⟩
theorem dLa_init_27 : decode cLa_init 27 = .ok (.aload_n 0, 1) := by decide +kernel
theorem dLa_init_28 : decode cLa_init 28 = .ok (.bipush 64, 2) := by decide +kernel
theorem dLa_init_30 : decode cLa_init 30 = .ok (.newarray .int, 2) := by decide +kernel
theorem dLa_init_32 : decode cLa_init 32 = .ok (.putfield 24, 3) := by decide +kernel
theorem ff_1_2 : FLf "LastWordHill$Law" 1 2 (.array .int) := ⟨_, _, _, _, rfl, nY1, nN1, by decide, by decide, by decide⟩
theorem dLa_init_35 : decode cLa_init 35 = .ok (.return_, 1) := by decide +kernel
theorem mm_La_init : MMc yLa_init cLa_init 1 none 0 := ⟨hz_in 262 (by decide +kernel) (by decide +kernel), hz_in 138 (by decide +kernel) (by decide +kernel), by decide +kernel, by decide⟩
theorem mi_La_init : Cond.instanceMethod yLa_init ∈ hz_wt := hz_in 261 (by decide +kernel) (by decide +kernel)
theorem ml_Te_11 : Cond.methodLinkNest "LastWordHill$Texts" 11 yLa_init "LastWordHill" ∈ hz_nt := hz_inN 260 (by decide +kernel) (by decide +kernel)
theorem dTe_init_12 : decode cTe_init 12 = .ok (.putfield 12, 3) := by decide +kernel
theorem ff_8_0 : FLf "LastWordHill$Texts" 8 0 (.object "LastWordHill$Law") := ⟨_, _, _, _, rfl, nY8, nN8, by decide, by decide, by decide⟩
theorem dTe_init_15 : decode cTe_init 15 = .ok (.aload_n 0, 1) := by decide +kernel
theorem dTe_init_16 : decode cTe_init 16 = .ok (.new 18, 3) := by decide +kernel
theorem nw_Te_18 : NWc "LastWordHill$Texts" 18 7 := ⟨_, _, _, _, rfl, nL7, nY7, hz_in 307 (by decide +kernel) (by decide +kernel), hz_in 265 (by decide +kernel) (by decide +kernel), hz_in 139 (by decide +kernel) (by decide +kernel), by decide +kernel, by decide, by decide⟩
theorem dTe_init_19 : decode cTe_init 19 = .ok (.dup, 1) := by decide +kernel
theorem dTe_init_20 : decode cTe_init 20 = .ok (.iconst 4, 1) := by decide +kernel
theorem dTe_init_21 : decode cTe_init 21 = .ok (.bipush 16, 2) := by decide +kernel
theorem dTe_init_23 : decode cTe_init 23 = .ok (.invokespecial 20, 3) := by decide +kernel
theorem ml_Te_20 : Cond.methodLink "LastWordHill$Texts" 20 yTa_init ∈ hz_wt := hz_in 308 (by decide +kernel) (by decide +kernel)
theorem dTe_init_26 : decode cTe_init 26 = .ok (.putfield 23, 3) := by decide +kernel
theorem ff_8_1 : FLf "LastWordHill$Texts" 8 1 (.object "LastWordHill$Table") := ⟨_, _, _, _, rfl, nY8, nN8, by decide, by decide, by decide⟩
theorem dTe_init_29 : decode cTe_init 29 = .ok (.aload_n 0, 1) := by decide +kernel
theorem dTe_init_30 : decode cTe_init 30 = .ok (.new 18, 3) := by decide +kernel
theorem dTe_init_33 : decode cTe_init 33 = .ok (.dup, 1) := by decide +kernel
theorem dTe_init_34 : decode cTe_init 34 = .ok (.iconst 2, 1) := by decide +kernel
theorem dTe_init_35 : decode cTe_init 35 = .ok (.bipush 16, 2) := by decide +kernel
theorem dTe_init_37 : decode cTe_init 37 = .ok (.invokespecial 20, 3) := by decide +kernel
theorem dTe_init_40 : decode cTe_init 40 = .ok (.putfield 27, 3) := by decide +kernel
theorem ff_8_2 : FLf "LastWordHill$Texts" 8 2 (.object "LastWordHill$Table") := ⟨_, _, _, _, rfl, nY8, nN8, by decide, by decide, by decide⟩
theorem dTe_init_43 : decode cTe_init 43 = .ok (.aload_n 0, 1) := by decide +kernel
theorem dTe_init_44 : decode cTe_init 44 = .ok (.bipush 20, 2) := by decide +kernel
theorem dTe_init_46 : decode cTe_init 46 = .ok (.newarray .int, 2) := by decide +kernel
theorem dTe_init_48 : decode cTe_init 48 = .ok (.putfield 30, 3) := by decide +kernel
theorem ff_8_3 : FLf "LastWordHill$Texts" 8 3 (.array .int) := ⟨_, _, _, _, rfl, nY8, nN8, by decide, by decide, by decide⟩
theorem dTe_init_51 : decode cTe_init 51 = .ok (.return_, 1) := by decide +kernel
theorem mm_Te_init : MMc yTe_init cTe_init 1 none 0 := ⟨hz_in 256 (by decide +kernel) (by decide +kernel), hz_in 137 (by decide +kernel) (by decide +kernel), by decide +kernel, by decide⟩
theorem mi_Te_init : Cond.instanceMethod yTe_init ∈ hz_wt := hz_in 255 (by decide +kernel) (by decide +kernel)
theorem ml_H_28 : Cond.methodLinkNest "LastWordHill" 28 yTe_init "LastWordHill" ∈ hz_nt := hz_inN 254 (by decide +kernel) (by decide +kernel)
theorem dH_init_45 : decode cH_init 45 = .ok (.putfield 29, 3) := by decide +kernel
theorem ff_11_3 : FLf "LastWordHill" 11 3 (.object "LastWordHill$Texts") := ⟨_, _, _, _, rfl, nY11, nN11, by decide, by decide, by decide⟩
theorem dH_init_48 : decode cH_init 48 = .ok (.aload_n 0, 1) := by decide +kernel
theorem dH_init_49 : decode cH_init 49 = .ok (.new 33, 3) := by decide +kernel
theorem nw_H_33 : NWc "LastWordHill" 33 4 := ⟨_, _, _, _, rfl, nL4, nY4, hz_in 333 (by decide +kernel) (by decide +kernel), hz_in 334 (by decide +kernel) (by decide +kernel), hz_in 141 (by decide +kernel) (by decide +kernel), by decide +kernel, by decide, by decide⟩
theorem dH_init_52 : decode cH_init 52 = .ok (.dup, 1) := by decide +kernel
theorem dH_init_53 : decode cH_init 53 = .ok (.invokespecial 35, 3) := by decide +kernel
def yRe_init : MethodName := ⟨"LastWordHill$Reader", "<init>", "()V"⟩
abbrev cRe_init : ByteArray := prog_6_method_1_code
theorem dRe_init_0 : decode cRe_init 0 = .ok (.aload_n 0, 1) := by decide +kernel
theorem dRe_init_1 : decode cRe_init 1 = .ok (.invokespecial 5, 3) := by decide +kernel
theorem mo_Re_5 : Cond.methodLink "LastWordHill$Reader" 5 Lib.objectInit ∈ hz_wt := hz_in 338 (by decide +kernel) (by decide +kernel)
theorem dRe_init_4 : decode cRe_init 4 = .ok (.aload_n 0, 1) := by decide +kernel
theorem dRe_init_5 : decode cRe_init 5 = .ok (.new 11, 3) := by decide +kernel
theorem nw_Re_11 : NWc "LastWordHill$Reader" 11 9 := ⟨_, _, _, _, rfl, nL9, nY9, hz_in 339 (by decide +kernel) (by decide +kernel), hz_in 340 (by decide +kernel) (by decide +kernel), hz_in 142 (by decide +kernel) (by decide +kernel), by decide +kernel, by decide, by decide⟩
theorem dRe_init_8 : decode cRe_init 8 = .ok (.dup, 1) := by decide +kernel
theorem dRe_init_9 : decode cRe_init 9 = .ok (.invokespecial 13, 3) := by decide +kernel
def yTo_init : MethodName := ⟨"LastWordHill$Tokens", "<init>", "()V"⟩
abbrev cTo_init : ByteArray := prog_11_method_1_code
theorem dTo_init_0 : decode cTo_init 0 = .ok (.aload_n 0, 1) := by decide +kernel
theorem dTo_init_1 : decode cTo_init 1 = .ok (.invokespecial 5, 3) := by decide +kernel
theorem mo_To_5 : Cond.methodLink "LastWordHill$Tokens" 5 Lib.objectInit ∈ hz_wt := hz_in 344 (by decide +kernel) (by decide +kernel)
theorem dTo_init_4 : decode cTo_init 4 = .ok (.aload_n 0, 1) := by decide +kernel
theorem dTo_init_5 : decode cTo_init 5 = .ok (.sipush 400, 3) := by decide +kernel
theorem dTo_init_8 : decode cTo_init 8 = .ok (.newarray .int, 2) := by decide +kernel
theorem dTo_init_10 : decode cTo_init 10 = .ok (.putfield 11, 3) := by decide +kernel
theorem ff_9_0 : FLf "LastWordHill$Tokens" 9 0 (.array .int) := ⟨_, _, _, _, rfl, nY9, nN9, by decide, by decide, by decide⟩
theorem dTo_init_13 : decode cTo_init 13 = .ok (.aload_n 0, 1) := by decide +kernel
theorem dTo_init_14 : decode cTo_init 14 = .ok (.sipush 401, 3) := by decide +kernel
theorem dTo_init_17 : decode cTo_init 17 = .ok (.newarray .int, 2) := by decide +kernel
theorem dTo_init_19 : decode cTo_init 19 = .ok (.putfield 15, 3) := by decide +kernel
theorem ff_9_1 : FLf "LastWordHill$Tokens" 9 1 (.array .int) := ⟨_, _, _, _, rfl, nY9, nN9, by decide, by decide, by decide⟩
theorem dTo_init_22 : decode cTo_init 22 = .ok (.aload_n 0, 1) := by decide +kernel
theorem dTo_init_23 : decode cTo_init 23 = .ok (.sipush 401, 3) := by decide +kernel
theorem dTo_init_26 : decode cTo_init 26 = .ok (.newarray .int, 2) := by decide +kernel
theorem dTo_init_28 : decode cTo_init 28 = .ok (.putfield 18, 3) := by decide +kernel
theorem ff_9_2 : FLf "LastWordHill$Tokens" 9 2 (.array .int) := ⟨_, _, _, _, rfl, nY9, nN9, by decide, by decide, by decide⟩
theorem dTo_init_31 : decode cTo_init 31 = .ok (.aload_n 0, 1) := by decide +kernel
theorem dTo_init_32 : decode cTo_init 32 = .ok (.sipush 401, 3) := by decide +kernel
theorem dTo_init_35 : decode cTo_init 35 = .ok (.newarray .int, 2) := by decide +kernel
theorem dTo_init_37 : decode cTo_init 37 = .ok (.putfield 21, 3) := by decide +kernel
theorem ff_9_3 : FLf "LastWordHill$Tokens" 9 3 (.array .int) := ⟨_, _, _, _, rfl, nY9, nN9, by decide, by decide, by decide⟩
theorem dTo_init_40 : decode cTo_init 40 = .ok (.return_, 1) := by decide +kernel
theorem mm_To_init : MMc yTo_init cTo_init 1 none 0 := ⟨hz_in 343 (by decide +kernel) (by decide +kernel), hz_in 142 (by decide +kernel) (by decide +kernel), by decide +kernel, by decide⟩
theorem mi_To_init : Cond.instanceMethod yTo_init ∈ hz_wt := hz_in 342 (by decide +kernel) (by decide +kernel)
theorem ml_Re_13 : Cond.methodLinkNest "LastWordHill$Reader" 13 yTo_init "LastWordHill" ∈ hz_nt := hz_inN 341 (by decide +kernel) (by decide +kernel)
theorem dRe_init_12 : decode cRe_init 12 = .ok (.putfield 14, 3) := by decide +kernel
theorem ff_4_0 : FLf "LastWordHill$Reader" 4 0 (.object "LastWordHill$Tokens") := ⟨_, _, _, _, rfl, nY4, nN4, by decide, by decide, by decide⟩
theorem dRe_init_15 : decode cRe_init 15 = .ok (.aload_n 0, 1) := by decide +kernel
theorem dRe_init_16 : decode cRe_init 16 = .ok (.new 18, 3) := by decide +kernel
theorem nw_Re_18 : NWc "LastWordHill$Reader" 18 8 := ⟨_, _, _, _, rfl, nL8, nY8, hz_in 381 (by decide +kernel) (by decide +kernel), hz_in 253 (by decide +kernel) (by decide +kernel), hz_in 137 (by decide +kernel) (by decide +kernel), by decide +kernel, by decide, by decide⟩
theorem dRe_init_19 : decode cRe_init 19 = .ok (.dup, 1) := by decide +kernel
theorem dRe_init_20 : decode cRe_init 20 = .ok (.invokespecial 20, 3) := by decide +kernel
theorem ml_Re_20 : Cond.methodLinkNest "LastWordHill$Reader" 20 yTe_init "LastWordHill" ∈ hz_nt := hz_inN 382 (by decide +kernel) (by decide +kernel)
theorem dRe_init_23 : decode cRe_init 23 = .ok (.putfield 21, 3) := by decide +kernel
theorem ff_4_1 : FLf "LastWordHill$Reader" 4 1 (.object "LastWordHill$Texts") := ⟨_, _, _, _, rfl, nY4, nN4, by decide, by decide, by decide⟩
theorem dRe_init_26 : decode cRe_init 26 = .ok (.aload_n 0, 1) := by decide +kernel
theorem dRe_init_27 : decode cRe_init 27 = .ok (.bipush 27, 2) := by decide +kernel
theorem dRe_init_29 : decode cRe_init 29 = .ok (.newarray .int, 2) := by decide +kernel
theorem dRe_init_31 : decode cRe_init 31 = .ok (.putfield 25, 3) := by decide +kernel
theorem ff_4_2 : FLf "LastWordHill$Reader" 4 2 (.array .int) := ⟨_, _, _, _, rfl, nY4, nN4, by decide, by decide, by decide⟩
theorem dRe_init_34 : decode cRe_init 34 = .ok (.aload_n 0, 1) := by decide +kernel
theorem dRe_init_35 : decode cRe_init 35 = .ok (.iconst (-1), 1) := by decide +kernel
theorem dRe_init_36 : decode cRe_init 36 = .ok (.putfield 29, 3) := by decide +kernel
theorem dRe_init_39 : decode cRe_init 39 = .ok (.return_, 1) := by decide +kernel
theorem mm_Re_init : MMc yRe_init cRe_init 1 none 0 := ⟨hz_in 337 (by decide +kernel) (by decide +kernel), hz_in 141 (by decide +kernel) (by decide +kernel), by decide +kernel, by decide⟩
theorem mi_Re_init : Cond.instanceMethod yRe_init ∈ hz_wt := hz_in 336 (by decide +kernel) (by decide +kernel)
theorem ml_H_35 : Cond.methodLinkNest "LastWordHill" 35 yRe_init "LastWordHill" ∈ hz_nt := hz_inN 335 (by decide +kernel) (by decide +kernel)
theorem dH_init_56 : decode cH_init 56 = .ok (.putfield 36, 3) := by decide +kernel
theorem ff_11_4 : FLf "LastWordHill" 11 4 (.object "LastWordHill$Reader") := ⟨_, _, _, _, rfl, nY11, nN11, by decide, by decide, by decide⟩
theorem dH_init_59 : decode cH_init 59 = .ok (.aload_n 0, 1) := by decide +kernel
theorem dH_init_60 : decode cH_init 60 = .ok (.new 40, 3) := by decide +kernel
theorem nw_H_40 : NWc "LastWordHill" 40 10 := ⟨_, _, _, _, rfl, nL10, nY10, hz_in 412 (by decide +kernel) (by decide +kernel), hz_in 413 (by decide +kernel) (by decide +kernel), hz_in 143 (by decide +kernel) (by decide +kernel), by decide +kernel, by decide, by decide⟩
theorem dH_init_63 : decode cH_init 63 = .ok (.dup, 1) := by decide +kernel
theorem dH_init_64 : decode cH_init 64 = .ok (.invokespecial 42, 3) := by decide +kernel
def yTl_init : MethodName := ⟨"LastWordHill$Told", "<init>", "()V"⟩
abbrev cTl_init : ByteArray := prog_12_method_1_code
theorem dTl_init_0 : decode cTl_init 0 = .ok (.aload_n 0, 1) := by decide +kernel
theorem dTl_init_1 : decode cTl_init 1 = .ok (.invokespecial 3, 3) := by decide +kernel
theorem mo_Tl_3 : Cond.methodLink "LastWordHill$Told" 3 Lib.objectInit ∈ hz_wt := hz_in 417 (by decide +kernel) (by decide +kernel)
theorem dTl_init_4 : decode cTl_init 4 = .ok (.aload_n 0, 1) := by decide +kernel
theorem dTl_init_5 : decode cTl_init 5 = .ok (.new 9, 3) := by decide +kernel
theorem nw_Tl_9 : NWc "LastWordHill$Told" 9 7 := ⟨_, _, _, _, rfl, nL7, nY7, hz_in 418 (by decide +kernel) (by decide +kernel), hz_in 265 (by decide +kernel) (by decide +kernel), hz_in 139 (by decide +kernel) (by decide +kernel), by decide +kernel, by decide, by decide⟩
theorem dTl_init_8 : decode cTl_init 8 = .ok (.dup, 1) := by decide +kernel
theorem dTl_init_9 : decode cTl_init 9 = .ok (.iconst 2, 1) := by decide +kernel
theorem dTl_init_10 : decode cTl_init 10 = .ok (.bipush 10, 2) := by decide +kernel
theorem dTl_init_12 : decode cTl_init 12 = .ok (.invokespecial 11, 3) := by decide +kernel
theorem ml_Tl_11 : Cond.methodLink "LastWordHill$Told" 11 yTa_init ∈ hz_wt := hz_in 419 (by decide +kernel) (by decide +kernel)
theorem dTl_init_15 : decode cTl_init 15 = .ok (.putfield 14, 3) := by decide +kernel
theorem ff_10_0 : FLf "LastWordHill$Told" 10 0 (.object "LastWordHill$Table") := ⟨_, _, _, _, rfl, nY10, nN10, by decide, by decide, by decide⟩
theorem dTl_init_18 : decode cTl_init 18 = .ok (.aload_n 0, 1) := by decide +kernel
theorem dTl_init_19 : decode cTl_init 19 = .ok (.new 9, 3) := by decide +kernel
theorem dTl_init_22 : decode cTl_init 22 = .ok (.dup, 1) := by decide +kernel
theorem dTl_init_23 : decode cTl_init 23 = .ok (.iconst 2, 1) := by decide +kernel
theorem dTl_init_24 : decode cTl_init 24 = .ok (.bipush 9, 2) := by decide +kernel
theorem dTl_init_26 : decode cTl_init 26 = .ok (.invokespecial 11, 3) := by decide +kernel
theorem dTl_init_29 : decode cTl_init 29 = .ok (.putfield 20, 3) := by decide +kernel
theorem ff_10_1 : FLf "LastWordHill$Told" 10 1 (.object "LastWordHill$Table") := ⟨_, _, _, _, rfl, nY10, nN10, by decide, by decide, by decide⟩
theorem dTl_init_32 : decode cTl_init 32 = .ok (.aload_n 0, 1) := by decide +kernel
theorem dTl_init_33 : decode cTl_init 33 = .ok (.new 9, 3) := by decide +kernel
theorem dTl_init_36 : decode cTl_init 36 = .ok (.dup, 1) := by decide +kernel
theorem dTl_init_37 : decode cTl_init 37 = .ok (.iconst 3, 1) := by decide +kernel
theorem dTl_init_38 : decode cTl_init 38 = .ok (.bipush 16, 2) := by decide +kernel
theorem dTl_init_40 : decode cTl_init 40 = .ok (.invokespecial 11, 3) := by decide +kernel
theorem dTl_init_43 : decode cTl_init 43 = .ok (.putfield 23, 3) := by decide +kernel
theorem ff_10_2 : FLf "LastWordHill$Told" 10 2 (.object "LastWordHill$Table") := ⟨_, _, _, _, rfl, nY10, nN10, by decide, by decide, by decide⟩
theorem dTl_init_46 : decode cTl_init 46 = .ok (.aload_n 0, 1) := by decide +kernel
theorem dTl_init_47 : decode cTl_init 47 = .ok (.new 9, 3) := by decide +kernel
theorem dTl_init_50 : decode cTl_init 50 = .ok (.dup, 1) := by decide +kernel
theorem dTl_init_51 : decode cTl_init 51 = .ok (.iconst 2, 1) := by decide +kernel
theorem dTl_init_52 : decode cTl_init 52 = .ok (.bipush 8, 2) := by decide +kernel
theorem dTl_init_54 : decode cTl_init 54 = .ok (.invokespecial 11, 3) := by decide +kernel
theorem dTl_init_57 : decode cTl_init 57 = .ok (.putfield 26, 3) := by decide +kernel
theorem ff_10_3 : FLf "LastWordHill$Told" 10 3 (.object "LastWordHill$Table") := ⟨_, _, _, _, rfl, nY10, nN10, by decide, by decide, by decide⟩
theorem dTl_init_60 : decode cTl_init 60 = .ok (.aload_n 0, 1) := by decide +kernel
theorem dTl_init_61 : decode cTl_init 61 = .ok (.new 9, 3) := by decide +kernel
theorem dTl_init_64 : decode cTl_init 64 = .ok (.dup, 1) := by decide +kernel
theorem dTl_init_65 : decode cTl_init 65 = .ok (.iconst 2, 1) := by decide +kernel
theorem dTl_init_66 : decode cTl_init 66 = .ok (.bipush 6, 2) := by decide +kernel
theorem dTl_init_68 : decode cTl_init 68 = .ok (.invokespecial 11, 3) := by decide +kernel
theorem dTl_init_71 : decode cTl_init 71 = .ok (.putfield 29, 3) := by decide +kernel
theorem ff_10_4 : FLf "LastWordHill$Told" 10 4 (.object "LastWordHill$Table") := ⟨_, _, _, _, rfl, nY10, nN10, by decide, by decide, by decide⟩
theorem dTl_init_74 : decode cTl_init 74 = .ok (.aload_n 0, 1) := by decide +kernel
theorem dTl_init_75 : decode cTl_init 75 = .ok (.new 9, 3) := by decide +kernel
theorem dTl_init_78 : decode cTl_init 78 = .ok (.dup, 1) := by decide +kernel
theorem dTl_init_79 : decode cTl_init 79 = .ok (.iconst 1, 1) := by decide +kernel
theorem dTl_init_80 : decode cTl_init 80 = .ok (.bipush 12, 2) := by decide +kernel
theorem dTl_init_82 : decode cTl_init 82 = .ok (.invokespecial 11, 3) := by decide +kernel
theorem dTl_init_85 : decode cTl_init 85 = .ok (.putfield 32, 3) := by decide +kernel
theorem ff_10_5 : FLf "LastWordHill$Told" 10 5 (.object "LastWordHill$Table") := ⟨_, _, _, _, rfl, nY10, nN10, by decide, by decide, by decide⟩
theorem dTl_init_88 : decode cTl_init 88 = .ok (.aload_n 0, 1) := by decide +kernel
theorem dTl_init_89 : decode cTl_init 89 = .ok (.new 9, 3) := by decide +kernel
theorem dTl_init_92 : decode cTl_init 92 = .ok (.dup, 1) := by decide +kernel
theorem dTl_init_93 : decode cTl_init 93 = .ok (.iconst 1, 1) := by decide +kernel
theorem dTl_init_94 : decode cTl_init 94 = .ok (.iconst 4, 1) := by decide +kernel
theorem dTl_init_95 : decode cTl_init 95 = .ok (.invokespecial 11, 3) := by decide +kernel
theorem dTl_init_98 : decode cTl_init 98 = .ok (.putfield 35, 3) := by decide +kernel
theorem ff_10_6 : FLf "LastWordHill$Told" 10 6 (.object "LastWordHill$Table") := ⟨_, _, _, _, rfl, nY10, nN10, by decide, by decide, by decide⟩
theorem dTl_init_101 : decode cTl_init 101 = .ok (.aload_n 0, 1) := by decide +kernel
theorem dTl_init_102 : decode cTl_init 102 = .ok (.iconst 1, 1) := by decide +kernel
theorem dTl_init_103 : decode cTl_init 103 = .ok (.putfield 38, 3) := by decide +kernel
theorem dTl_init_106 : decode cTl_init 106 = .ok (.aload_n 0, 1) := by decide +kernel
theorem dTl_init_107 : decode cTl_init 107 = .ok (.sipush 1000, 3) := by decide +kernel
theorem dTl_init_110 : decode cTl_init 110 = .ok (.putfield 42, 3) := by decide +kernel
theorem dTl_init_113 : decode cTl_init 113 = .ok (.return_, 1) := by decide +kernel
theorem mm_Tl_init : MMc yTl_init cTl_init 1 none 0 := ⟨hz_in 416 (by decide +kernel) (by decide +kernel), hz_in 143 (by decide +kernel) (by decide +kernel), by decide +kernel, by decide⟩
theorem mi_Tl_init : Cond.instanceMethod yTl_init ∈ hz_wt := hz_in 415 (by decide +kernel) (by decide +kernel)
theorem ml_H_42 : Cond.methodLinkNest "LastWordHill" 42 yTl_init "LastWordHill" ∈ hz_nt := hz_inN 414 (by decide +kernel) (by decide +kernel)
theorem dH_init_67 : decode cH_init 67 = .ok (.putfield 43, 3) := by decide +kernel
theorem ff_11_5 : FLf "LastWordHill" 11 5 (.object "LastWordHill$Told") := ⟨_, _, _, _, rfl, nY11, nN11, by decide, by decide, by decide⟩
theorem dH_init_70 : decode cH_init 70 = .ok (.aload_n 0, 1) := by decide +kernel
theorem dH_init_71 : decode cH_init 71 = .ok (.new 47, 3) := by decide +kernel
theorem nw_H_47 : NWc "LastWordHill" 47 7 := ⟨_, _, _, _, rfl, nL7, nY7, hz_in 471 (by decide +kernel) (by decide +kernel), hz_in 265 (by decide +kernel) (by decide +kernel), hz_in 139 (by decide +kernel) (by decide +kernel), by decide +kernel, by decide, by decide⟩
theorem dH_init_74 : decode cH_init 74 = .ok (.dup, 1) := by decide +kernel
theorem dH_init_75 : decode cH_init 75 = .ok (.iconst 5, 1) := by decide +kernel
theorem dH_init_76 : decode cH_init 76 = .ok (.sipush 150, 3) := by decide +kernel
theorem dH_init_79 : decode cH_init 79 = .ok (.invokespecial 49, 3) := by decide +kernel
theorem ml_H_49 : Cond.methodLink "LastWordHill" 49 yTa_init ∈ hz_wt := hz_in 472 (by decide +kernel) (by decide +kernel)
theorem dH_init_82 : decode cH_init 82 = .ok (.putfield 52, 3) := by decide +kernel
theorem ff_11_6 : FLf "LastWordHill" 11 6 (.object "LastWordHill$Table") := ⟨_, _, _, _, rfl, nY11, nN11, by decide, by decide, by decide⟩
theorem dH_init_85 : decode cH_init 85 = .ok (.aload_n 0, 1) := by decide +kernel
theorem dH_init_86 : decode cH_init 86 = .ok (.new 56, 3) := by decide +kernel
theorem nw_H_56 : NWc "LastWordHill" 56 6 := ⟨_, _, _, _, rfl, nL6, nY6, hz_in 473 (by decide +kernel) (by decide +kernel), hz_in 474 (by decide +kernel) (by decide +kernel), hz_in 144 (by decide +kernel) (by decide +kernel), by decide +kernel, by decide, by decide⟩
theorem dH_init_89 : decode cH_init 89 = .ok (.dup, 1) := by decide +kernel
theorem dH_init_90 : decode cH_init 90 = .ok (.aload_n 0, 1) := by decide +kernel
theorem dH_init_91 : decode cH_init 91 = .ok (.getfield 29, 3) := by decide +kernel
theorem dH_init_94 : decode cH_init 94 = .ok (.aload_n 0, 1) := by decide +kernel
theorem dH_init_95 : decode cH_init 95 = .ok (.getfield 52, 3) := by decide +kernel
theorem dH_init_98 : decode cH_init 98 = .ok (.invokespecial 58, 3) := by decide +kernel
def ySu_init : MethodName := ⟨"LastWordHill$Sun", "<init>", "(LLastWordHill$Texts;LLastWordHill$Table;)V"⟩
abbrev cSu_init : ByteArray := prog_8_method_1_code
theorem dSu_init_0 : decode cSu_init 0 = .ok (.aload_n 0, 1) := by decide +kernel
theorem dSu_init_1 : decode cSu_init 1 = .ok (.invokespecial 3, 3) := by decide +kernel
theorem mo_Su_3 : Cond.methodLink "LastWordHill$Sun" 3 Lib.objectInit ∈ hz_wt := hz_in 478 (by decide +kernel) (by decide +kernel)
theorem dSu_init_4 : decode cSu_init 4 = .ok (.aload_n 0, 1) := by decide +kernel
theorem dSu_init_5 : decode cSu_init 5 = .ok (.aload_n 1, 1) := by decide +kernel
theorem dSu_init_6 : decode cSu_init 6 = .ok (.putfield 9, 3) := by decide +kernel
theorem ff_6_0 : FLf "LastWordHill$Sun" 6 0 (.object "LastWordHill$Texts") := ⟨_, _, _, _, rfl, nY6, nN6, by decide, by decide, by decide⟩
theorem dSu_init_9 : decode cSu_init 9 = .ok (.aload_n 0, 1) := by decide +kernel
theorem dSu_init_10 : decode cSu_init 10 = .ok (.aload_n 2, 1) := by decide +kernel
theorem dSu_init_11 : decode cSu_init 11 = .ok (.putfield 15, 3) := by decide +kernel
theorem ff_6_1 : FLf "LastWordHill$Sun" 6 1 (.object "LastWordHill$Table") := ⟨_, _, _, _, rfl, nY6, nN6, by decide, by decide, by decide⟩
theorem dSu_init_14 : decode cSu_init 14 = .ok (.return_, 1) := by decide +kernel
theorem mm_Su_init : MMc ySu_init cSu_init 3 none 2 := ⟨hz_in 477 (by decide +kernel) (by decide +kernel), hz_in 144 (by decide +kernel) (by decide +kernel), by decide +kernel, by decide⟩
theorem mi_Su_init : Cond.instanceMethod ySu_init ∈ hz_wt := hz_in 476 (by decide +kernel) (by decide +kernel)
theorem ml_H_58 : Cond.methodLink "LastWordHill" 58 ySu_init ∈ hz_wt := hz_in 475 (by decide +kernel) (by decide +kernel)
theorem dH_init_101 : decode cH_init 101 = .ok (.putfield 61, 3) := by decide +kernel
theorem ff_11_7 : FLf "LastWordHill" 11 7 (.object "LastWordHill$Sun") := ⟨_, _, _, _, rfl, nY11, nN11, by decide, by decide, by decide⟩
theorem dH_init_104 : decode cH_init 104 = .ok (.aload_n 0, 1) := by decide +kernel
theorem dH_init_105 : decode cH_init 105 = .ok (.new 65, 3) := by decide +kernel
theorem nw_H_65 : NWc "LastWordHill" 65 2 := ⟨_, _, _, _, rfl, nL2, nY2, hz_in 486 (by decide +kernel) (by decide +kernel), hz_in 487 (by decide +kernel) (by decide +kernel), hz_in 145 (by decide +kernel) (by decide +kernel), by decide +kernel, by decide, by decide⟩
theorem dH_init_108 : decode cH_init 108 = .ok (.dup, 1) := by decide +kernel
theorem dH_init_109 : decode cH_init 109 = .ok (.aload_n 0, 1) := by decide +kernel
theorem dH_init_110 : decode cH_init 110 = .ok (.getfield 29, 3) := by decide +kernel
theorem dH_init_113 : decode cH_init 113 = .ok (.aload_n 0, 1) := by decide +kernel
theorem dH_init_114 : decode cH_init 114 = .ok (.getfield 43, 3) := by decide +kernel
theorem dH_init_117 : decode cH_init 117 = .ok (.invokespecial 67, 3) := by decide +kernel
def yMu_init : MethodName := ⟨"LastWordHill$Muse", "<init>", "(LLastWordHill$Texts;LLastWordHill$Told;)V"⟩
abbrev cMu_init : ByteArray := prog_4_method_1_code
theorem dMu_init_0 : decode cMu_init 0 = .ok (.aload_n 0, 1) := by decide +kernel
theorem dMu_init_1 : decode cMu_init 1 = .ok (.invokespecial 3, 3) := by decide +kernel
theorem mo_Mu_3 : Cond.methodLink "LastWordHill$Muse" 3 Lib.objectInit ∈ hz_wt := hz_in 491 (by decide +kernel) (by decide +kernel)
theorem dMu_init_4 : decode cMu_init 4 = .ok (.aload_n 0, 1) := by decide +kernel
theorem dMu_init_5 : decode cMu_init 5 = .ok (.bipush 10, 2) := by decide +kernel
theorem dMu_init_7 : decode cMu_init 7 = .ok (.newarray .int, 2) := by decide +kernel
theorem dMu_init_9 : decode cMu_init 9 = .ok (.putfield 9, 3) := by decide +kernel
theorem ff_2_2 : FLf "LastWordHill$Muse" 2 2 (.array .int) := ⟨_, _, _, _, rfl, nY2, nN2, by decide, by decide, by decide⟩
theorem dMu_init_12 : decode cMu_init 12 = .ok (.aload_n 0, 1) := by decide +kernel
theorem dMu_init_13 : decode cMu_init 13 = .ok (.bipush 6, 2) := by decide +kernel
theorem dMu_init_15 : decode cMu_init 15 = .ok (.newarray .int, 2) := by decide +kernel
theorem dMu_init_17 : decode cMu_init 17 = .ok (.putfield 15, 3) := by decide +kernel
theorem ff_2_3 : FLf "LastWordHill$Muse" 2 3 (.array .int) := ⟨_, _, _, _, rfl, nY2, nN2, by decide, by decide, by decide⟩
theorem dMu_init_20 : decode cMu_init 20 = .ok (.aload_n 0, 1) := by decide +kernel
theorem dMu_init_21 : decode cMu_init 21 = .ok (.bipush 6, 2) := by decide +kernel
theorem dMu_init_23 : decode cMu_init 23 = .ok (.newarray .int, 2) := by decide +kernel
theorem dMu_init_25 : decode cMu_init 25 = .ok (.putfield 18, 3) := by decide +kernel
theorem ff_2_4 : FLf "LastWordHill$Muse" 2 4 (.array .int) := ⟨_, _, _, _, rfl, nY2, nN2, by decide, by decide, by decide⟩
theorem dMu_init_28 : decode cMu_init 28 = .ok (.aload_n 0, 1) := by decide +kernel
theorem dMu_init_29 : decode cMu_init 29 = .ok (.bipush 100, 2) := by decide +kernel
theorem dMu_init_31 : decode cMu_init 31 = .ok (.newarray .int, 2) := by decide +kernel
theorem dMu_init_33 : decode cMu_init 33 = .ok (.putfield 21, 3) := by decide +kernel
theorem ff_2_5 : FLf "LastWordHill$Muse" 2 5 (.array .int) := ⟨_, _, _, _, rfl, nY2, nN2, by decide, by decide, by decide⟩
theorem dMu_init_36 : decode cMu_init 36 = .ok (.aload_n 0, 1) := by decide +kernel
theorem dMu_init_37 : decode cMu_init 37 = .ok (.aload_n 1, 1) := by decide +kernel
theorem dMu_init_38 : decode cMu_init 38 = .ok (.putfield 24, 3) := by decide +kernel
theorem ff_2_0 : FLf "LastWordHill$Muse" 2 0 (.object "LastWordHill$Texts") := ⟨_, _, _, _, rfl, nY2, nN2, by decide, by decide, by decide⟩
theorem dMu_init_41 : decode cMu_init 41 = .ok (.aload_n 0, 1) := by decide +kernel
theorem dMu_init_42 : decode cMu_init 42 = .ok (.aload_n 2, 1) := by decide +kernel
theorem dMu_init_43 : decode cMu_init 43 = .ok (.putfield 28, 3) := by decide +kernel
theorem ff_2_1 : FLf "LastWordHill$Muse" 2 1 (.object "LastWordHill$Told") := ⟨_, _, _, _, rfl, nY2, nN2, by decide, by decide, by decide⟩
theorem dMu_init_46 : decode cMu_init 46 = .ok (.return_, 1) := by decide +kernel
theorem mm_Mu_init : MMc yMu_init cMu_init 3 none 2 := ⟨hz_in 490 (by decide +kernel) (by decide +kernel), hz_in 145 (by decide +kernel) (by decide +kernel), by decide +kernel, by decide⟩
theorem mi_Mu_init : Cond.instanceMethod yMu_init ∈ hz_wt := hz_in 489 (by decide +kernel) (by decide +kernel)
theorem ml_H_67 : Cond.methodLink "LastWordHill" 67 yMu_init ∈ hz_wt := hz_in 488 (by decide +kernel) (by decide +kernel)
theorem dH_init_120 : decode cH_init 120 = .ok (.putfield 70, 3) := by decide +kernel
theorem ff_11_8 : FLf "LastWordHill" 11 8 (.object "LastWordHill$Muse") := ⟨_, _, _, _, rfl, nY11, nN11, by decide, by decide, by decide⟩
theorem dH_init_123 : decode cH_init 123 = .ok (.aload_n 0, 1) := by decide +kernel
theorem dH_init_124 : decode cH_init 124 = .ok (.new 74, 3) := by decide +kernel
theorem nw_H_74 : NWc "LastWordHill" 74 0 := ⟨_, _, _, _, rfl, nL0, nY0, hz_in 522 (by decide +kernel) (by decide +kernel), hz_in 523 (by decide +kernel) (by decide +kernel), hz_in 146 (by decide +kernel) (by decide +kernel), by decide +kernel, by decide, by decide⟩
theorem dH_init_127 : decode cH_init 127 = .ok (.dup, 1) := by decide +kernel
theorem dH_init_128 : decode cH_init 128 = .ok (.invokespecial 76, 3) := by decide +kernel
def yIm_init : MethodName := ⟨"LastWordHill$Image", "<init>", "()V"⟩
abbrev cIm_init : ByteArray := prog_2_method_1_code
theorem dIm_init_0 : decode cIm_init 0 = .ok (.aload_n 0, 1) := by decide +kernel
theorem dIm_init_1 : decode cIm_init 1 = .ok (.invokespecial 3, 3) := by decide +kernel
theorem mo_Im_3 : Cond.methodLink "LastWordHill$Image" 3 Lib.objectInit ∈ hz_wt := hz_in 527 (by decide +kernel) (by decide +kernel)
theorem dIm_init_4 : decode cIm_init 4 = .ok (.aload_n 0, 1) := by decide +kernel
theorem dIm_init_5 : decode cIm_init 5 = .ok (.new 9, 3) := by decide +kernel
theorem nw_Im_9 : NWc "LastWordHill$Image" 9 5 := ⟨_, _, _, _, rfl, nL5, nY5, hz_in 528 (by decide +kernel) (by decide +kernel), hz_in 165 (by decide +kernel) (by decide +kernel), hz_in 135 (by decide +kernel) (by decide +kernel), by decide +kernel, by decide, by decide⟩
theorem dIm_init_8 : decode cIm_init 8 = .ok (.dup, 1) := by decide +kernel
theorem dIm_init_9 : decode cIm_init 9 = .ok (.invokespecial 11, 3) := by decide +kernel
theorem ml_Im_11 : Cond.methodLinkNest "LastWordHill$Image" 11 ySc_init "LastWordHill" ∈ hz_nt := hz_inN 529 (by decide +kernel) (by decide +kernel)
theorem dIm_init_12 : decode cIm_init 12 = .ok (.putfield 12, 3) := by decide +kernel
theorem ff_0_0 : FLf "LastWordHill$Image" 0 0 (.object "LastWordHill$Scene") := ⟨_, _, _, _, rfl, nY0, nN0, by decide, by decide, by decide⟩
theorem dIm_init_15 : decode cIm_init 15 = .ok (.aload_n 0, 1) := by decide +kernel
theorem dIm_init_16 : decode cIm_init 16 = .ok (.new 18, 3) := by decide +kernel
theorem nw_Im_18 : NWc "LastWordHill$Image" 18 8 := ⟨_, _, _, _, rfl, nL8, nY8, hz_in 530 (by decide +kernel) (by decide +kernel), hz_in 253 (by decide +kernel) (by decide +kernel), hz_in 137 (by decide +kernel) (by decide +kernel), by decide +kernel, by decide, by decide⟩
theorem dIm_init_19 : decode cIm_init 19 = .ok (.dup, 1) := by decide +kernel
theorem dIm_init_20 : decode cIm_init 20 = .ok (.invokespecial 20, 3) := by decide +kernel
theorem ml_Im_20 : Cond.methodLinkNest "LastWordHill$Image" 20 yTe_init "LastWordHill" ∈ hz_nt := hz_inN 531 (by decide +kernel) (by decide +kernel)
theorem dIm_init_23 : decode cIm_init 23 = .ok (.putfield 21, 3) := by decide +kernel
theorem ff_0_1 : FLf "LastWordHill$Image" 0 1 (.object "LastWordHill$Texts") := ⟨_, _, _, _, rfl, nY0, nN0, by decide, by decide, by decide⟩
theorem dIm_init_26 : decode cIm_init 26 = .ok (.aload_n 0, 1) := by decide +kernel
theorem dIm_init_27 : decode cIm_init 27 = .ok (.new 25, 3) := by decide +kernel
theorem nw_Im_25 : NWc "LastWordHill$Image" 25 10 := ⟨_, _, _, _, rfl, nL10, nY10, hz_in 532 (by decide +kernel) (by decide +kernel), hz_in 413 (by decide +kernel) (by decide +kernel), hz_in 143 (by decide +kernel) (by decide +kernel), by decide +kernel, by decide, by decide⟩
theorem dIm_init_30 : decode cIm_init 30 = .ok (.dup, 1) := by decide +kernel
theorem dIm_init_31 : decode cIm_init 31 = .ok (.invokespecial 27, 3) := by decide +kernel
theorem ml_Im_27 : Cond.methodLinkNest "LastWordHill$Image" 27 yTl_init "LastWordHill" ∈ hz_nt := hz_inN 533 (by decide +kernel) (by decide +kernel)
theorem dIm_init_34 : decode cIm_init 34 = .ok (.putfield 28, 3) := by decide +kernel
theorem ff_0_2 : FLf "LastWordHill$Image" 0 2 (.object "LastWordHill$Told") := ⟨_, _, _, _, rfl, nY0, nN0, by decide, by decide, by decide⟩
theorem dIm_init_37 : decode cIm_init 37 = .ok (.aload_n 0, 1) := by decide +kernel
theorem dIm_init_38 : decode cIm_init 38 = .ok (.new 32, 3) := by decide +kernel
theorem nw_Im_32 : NWc "LastWordHill$Image" 32 7 := ⟨_, _, _, _, rfl, nL7, nY7, hz_in 534 (by decide +kernel) (by decide +kernel), hz_in 265 (by decide +kernel) (by decide +kernel), hz_in 139 (by decide +kernel) (by decide +kernel), by decide +kernel, by decide, by decide⟩
theorem dIm_init_41 : decode cIm_init 41 = .ok (.dup, 1) := by decide +kernel
theorem dIm_init_42 : decode cIm_init 42 = .ok (.iconst 5, 1) := by decide +kernel
theorem dIm_init_43 : decode cIm_init 43 = .ok (.sipush 150, 3) := by decide +kernel
theorem dIm_init_46 : decode cIm_init 46 = .ok (.invokespecial 34, 3) := by decide +kernel
theorem ml_Im_34 : Cond.methodLink "LastWordHill$Image" 34 yTa_init ∈ hz_wt := hz_in 535 (by decide +kernel) (by decide +kernel)
theorem dIm_init_49 : decode cIm_init 49 = .ok (.putfield 37, 3) := by decide +kernel
theorem ff_0_3 : FLf "LastWordHill$Image" 0 3 (.object "LastWordHill$Table") := ⟨_, _, _, _, rfl, nY0, nN0, by decide, by decide, by decide⟩
theorem dIm_init_52 : decode cIm_init 52 = .ok (.return_, 1) := by decide +kernel
theorem mm_Im_init : MMc yIm_init cIm_init 1 none 0 := ⟨hz_in 526 (by decide +kernel) (by decide +kernel), hz_in 146 (by decide +kernel) (by decide +kernel), by decide +kernel, by decide⟩
theorem mi_Im_init : Cond.instanceMethod yIm_init ∈ hz_wt := hz_in 525 (by decide +kernel) (by decide +kernel)
theorem ml_H_76 : Cond.methodLinkNest "LastWordHill" 76 yIm_init "LastWordHill" ∈ hz_nt := hz_inN 524 (by decide +kernel) (by decide +kernel)
theorem dH_init_131 : decode cH_init 131 = .ok (.putfield 77, 3) := by decide +kernel
theorem ff_11_9 : FLf "LastWordHill" 11 9 (.object "LastWordHill$Image") := ⟨_, _, _, _, rfl, nY11, nN11, by decide, by decide, by decide⟩
theorem dH_init_134 : decode cH_init 134 = .ok (.return_, 1) := by decide +kernel
def yM_init : MethodName := ⟨"LastWordHillModel", "<init>", "()V"⟩
abbrev cM_init : ByteArray := prog_14_method_1_code
theorem dM_init_0 : decode cM_init 0 = .ok (.aload_n 0, 1) := by decide +kernel
theorem dM_init_1 : decode cM_init 1 = .ok (.invokespecial 1, 3) := by decide +kernel
theorem mo_M_1 : Cond.methodLink "LastWordHillModel" 1 Lib.objectInit ∈ hz_wt := hz_in 1411 (by decide +kernel) (by decide +kernel)
theorem dM_init_4 : decode cM_init 4 = .ok (.aload_n 0, 1) := by decide +kernel
theorem dM_init_5 : decode cM_init 5 = .ok (.bipush 50, 2) := by decide +kernel
theorem dM_init_7 : decode cM_init 7 = .ok (.newarray .int, 2) := by decide +kernel
theorem dM_init_9 : decode cM_init 9 = .ok (.putfield 7, 3) := by decide +kernel
theorem ff_12_1 : FLf "LastWordHillModel" 12 1 (.array .int) := ⟨_, _, _, _, rfl, nY12, nN12, by decide, by decide, by decide⟩
theorem dM_init_12 : decode cM_init 12 = .ok (.aload_n 0, 1) := by decide +kernel
theorem dM_init_13 : decode cM_init 13 = .ok (.sipush 300, 3) := by decide +kernel
theorem dM_init_16 : decode cM_init 16 = .ok (.newarray .int, 2) := by decide +kernel
theorem dM_init_18 : decode cM_init 18 = .ok (.putfield 13, 3) := by decide +kernel
theorem ff_12_2 : FLf "LastWordHillModel" 12 2 (.array .int) := ⟨_, _, _, _, rfl, nY12, nN12, by decide, by decide, by decide⟩
theorem dM_init_21 : decode cM_init 21 = .ok (.aload_n 0, 1) := by decide +kernel
theorem dM_init_22 : decode cM_init 22 = .ok (.bipush 50, 2) := by decide +kernel
theorem dM_init_24 : decode cM_init 24 = .ok (.newarray .int, 2) := by decide +kernel
theorem dM_init_26 : decode cM_init 26 = .ok (.putfield 16, 3) := by decide +kernel
theorem ff_12_4 : FLf "LastWordHillModel" 12 4 (.array .int) := ⟨_, _, _, _, rfl, nY12, nN12, by decide, by decide, by decide⟩
theorem dM_init_29 : decode cM_init 29 = .ok (.aload_n 0, 1) := by decide +kernel
theorem dM_init_30 : decode cM_init 30 = .ok (.bipush 10, 2) := by decide +kernel
theorem dM_init_32 : decode cM_init 32 = .ok (.newarray .int, 2) := by decide +kernel
theorem dM_init_34 : decode cM_init 34 = .ok (.putfield 19, 3) := by decide +kernel
theorem ff_12_7 : FLf "LastWordHillModel" 12 7 (.array .int) := ⟨_, _, _, _, rfl, nY12, nN12, by decide, by decide, by decide⟩
theorem dM_init_37 : decode cM_init 37 = .ok (.aload_n 0, 1) := by decide +kernel
theorem dM_init_38 : decode cM_init 38 = .ok (.bipush 10, 2) := by decide +kernel
theorem dM_init_40 : decode cM_init 40 = .ok (.newarray .int, 2) := by decide +kernel
theorem dM_init_42 : decode cM_init 42 = .ok (.putfield 22, 3) := by decide +kernel
theorem ff_12_8 : FLf "LastWordHillModel" 12 8 (.array .int) := ⟨_, _, _, _, rfl, nY12, nN12, by decide, by decide, by decide⟩
theorem dM_init_45 : decode cM_init 45 = .ok (.aload_n 0, 1) := by decide +kernel
theorem dM_init_46 : decode cM_init 46 = .ok (.bipush 10, 2) := by decide +kernel
theorem dM_init_48 : decode cM_init 48 = .ok (.newarray .int, 2) := by decide +kernel
theorem dM_init_50 : decode cM_init 50 = .ok (.putfield 25, 3) := by decide +kernel
theorem ff_12_9 : FLf "LastWordHillModel" 12 9 (.array .int) := ⟨_, _, _, _, rfl, nY12, nN12, by decide, by decide, by decide⟩
theorem dM_init_53 : decode cM_init 53 = .ok (.aload_n 0, 1) := by decide +kernel
theorem dM_init_54 : decode cM_init 54 = .ok (.sipush 750, 3) := by decide +kernel
theorem dM_init_57 : decode cM_init 57 = .ok (.newarray .int, 2) := by decide +kernel
theorem dM_init_59 : decode cM_init 59 = .ok (.putfield 28, 3) := by decide +kernel
theorem ff_12_10 : FLf "LastWordHillModel" 12 10 (.array .int) := ⟨_, _, _, _, rfl, nY12, nN12, by decide, by decide, by decide⟩
theorem dM_init_62 : decode cM_init 62 = .ok (.aload_n 0, 1) := by decide +kernel
theorem dM_init_63 : decode cM_init 63 = .ok (.sipush 400, 3) := by decide +kernel
theorem dM_init_66 : decode cM_init 66 = .ok (.newarray .int, 2) := by decide +kernel
theorem dM_init_68 : decode cM_init 68 = .ok (.putfield 31, 3) := by decide +kernel
theorem ff_12_11 : FLf "LastWordHillModel" 12 11 (.array .int) := ⟨_, _, _, _, rfl, nY12, nN12, by decide, by decide, by decide⟩
theorem dM_init_71 : decode cM_init 71 = .ok (.aload_n 0, 1) := by decide +kernel
theorem dM_init_72 : decode cM_init 72 = .ok (.bipush 122, 2) := by decide +kernel
theorem dM_init_74 : decode cM_init 74 = .ok (.newarray .int, 2) := by decide +kernel
theorem dM_init_76 : decode cM_init 76 = .ok (.dup, 1) := by decide +kernel
theorem dM_init_77 : decode cM_init 77 = .ok (.iconst 0, 1) := by decide +kernel
theorem dM_init_78 : decode cM_init 78 = .ok (.bipush 32, 2) := by decide +kernel
theorem dM_init_80 : decode cM_init 80 = .ok (.iastore, 1) := by decide +kernel
theorem dM_init_81 : decode cM_init 81 = .ok (.dup, 1) := by decide +kernel
theorem dM_init_82 : decode cM_init 82 = .ok (.iconst 1, 1) := by decide +kernel
theorem dM_init_83 : decode cM_init 83 = .ok (.bipush 99, 2) := by decide +kernel
theorem dM_init_85 : decode cM_init 85 = .ok (.iastore, 1) := by decide +kernel
theorem dM_init_86 : decode cM_init 86 = .ok (.dup, 1) := by decide +kernel
theorem dM_init_87 : decode cM_init 87 = .ok (.iconst 2, 1) := by decide +kernel
theorem dM_init_88 : decode cM_init 88 = .ok (.bipush 108, 2) := by decide +kernel
theorem dM_init_90 : decode cM_init 90 = .ok (.iastore, 1) := by decide +kernel
theorem dM_init_91 : decode cM_init 91 = .ok (.dup, 1) := by decide +kernel
theorem dM_init_92 : decode cM_init 92 = .ok (.iconst 3, 1) := by decide +kernel
theorem dM_init_93 : decode cM_init 93 = .ok (.bipush 105, 2) := by decide +kernel
theorem dM_init_95 : decode cM_init 95 = .ok (.iastore, 1) := by decide +kernel
theorem dM_init_96 : decode cM_init 96 = .ok (.dup, 1) := by decide +kernel
theorem dM_init_97 : decode cM_init 97 = .ok (.iconst 4, 1) := by decide +kernel
theorem dM_init_98 : decode cM_init 98 = .ok (.bipush 109, 2) := by decide +kernel
theorem dM_init_100 : decode cM_init 100 = .ok (.iastore, 1) := by decide +kernel
theorem dM_init_101 : decode cM_init 101 = .ok (.dup, 1) := by decide +kernel
theorem dM_init_102 : decode cM_init 102 = .ok (.iconst 5, 1) := by decide +kernel
theorem dM_init_103 : decode cM_init 103 = .ok (.bipush 98, 2) := by decide +kernel
theorem dM_init_105 : decode cM_init 105 = .ok (.iastore, 1) := by decide +kernel
theorem dM_init_106 : decode cM_init 106 = .ok (.dup, 1) := by decide +kernel
theorem dM_init_107 : decode cM_init 107 = .ok (.bipush 6, 2) := by decide +kernel
theorem dM_init_109 : decode cM_init 109 = .ok (.bipush 115, 2) := by decide +kernel
theorem dM_init_111 : decode cM_init 111 = .ok (.iastore, 1) := by decide +kernel
theorem dM_init_112 : decode cM_init 112 = .ok (.dup, 1) := by decide +kernel
theorem dM_init_113 : decode cM_init 113 = .ok (.bipush 7, 2) := by decide +kernel
theorem dM_init_115 : decode cM_init 115 = .ok (.bipush 32, 2) := by decide +kernel
theorem dM_init_117 : decode cM_init 117 = .ok (.iastore, 1) := by decide +kernel
theorem dM_init_118 : decode cM_init 118 = .ok (.dup, 1) := by decide +kernel
theorem dM_init_119 : decode cM_init 119 = .ok (.bipush 8, 2) := by decide +kernel
theorem dM_init_121 : decode cM_init 121 = .ok (.bipush 116, 2) := by decide +kernel
theorem dM_init_123 : decode cM_init 123 = .ok (.iastore, 1) := by decide +kernel
theorem dM_init_124 : decode cM_init 124 = .ok (.dup, 1) := by decide +kernel
theorem dM_init_125 : decode cM_init 125 = .ok (.bipush 9, 2) := by decide +kernel
theorem dM_init_127 : decode cM_init 127 = .ok (.bipush 105, 2) := by decide +kernel
theorem dM_init_129 : decode cM_init 129 = .ok (.iastore, 1) := by decide +kernel
theorem dM_init_130 : decode cM_init 130 = .ok (.dup, 1) := by decide +kernel
theorem dM_init_131 : decode cM_init 131 = .ok (.bipush 10, 2) := by decide +kernel
theorem dM_init_133 : decode cM_init 133 = .ok (.bipush 114, 2) := by decide +kernel
theorem dM_init_135 : decode cM_init 135 = .ok (.iastore, 1) := by decide +kernel
theorem dM_init_136 : decode cM_init 136 = .ok (.dup, 1) := by decide +kernel
theorem dM_init_137 : decode cM_init 137 = .ok (.bipush 11, 2) := by decide +kernel
theorem dM_init_139 : decode cM_init 139 = .ok (.bipush 101, 2) := by decide +kernel
theorem dM_init_141 : decode cM_init 141 = .ok (.iastore, 1) := by decide +kernel
theorem dM_init_142 : decode cM_init 142 = .ok (.dup, 1) := by decide +kernel
theorem dM_init_143 : decode cM_init 143 = .ok (.bipush 12, 2) := by decide +kernel
theorem dM_init_145 : decode cM_init 145 = .ok (.bipush 115, 2) := by decide +kernel
theorem dM_init_147 : decode cM_init 147 = .ok (.iastore, 1) := by decide +kernel
theorem dM_init_148 : decode cM_init 148 = .ok (.dup, 1) := by decide +kernel
theorem dM_init_149 : decode cM_init 149 = .ok (.bipush 13, 2) := by decide +kernel
theorem dM_init_151 : decode cM_init 151 = .ok (.bipush 32, 2) := by decide +kernel
theorem dM_init_153 : decode cM_init 153 = .ok (.iastore, 1) := by decide +kernel
theorem dM_init_154 : decode cM_init 154 = .ok (.dup, 1) := by decide +kernel
theorem dM_init_155 : decode cM_init 155 = .ok (.bipush 14, 2) := by decide +kernel
theorem dM_init_157 : decode cM_init 157 = .ok (.bipush 115, 2) := by decide +kernel
theorem dM_init_159 : decode cM_init 159 = .ok (.iastore, 1) := by decide +kernel
theorem dM_init_160 : decode cM_init 160 = .ok (.dup, 1) := by decide +kernel
theorem dM_init_161 : decode cM_init 161 = .ok (.bipush 15, 2) := by decide +kernel
theorem dM_init_163 : decode cM_init 163 = .ok (.bipush 97, 2) := by decide +kernel
theorem dM_init_165 : decode cM_init 165 = .ok (.iastore, 1) := by decide +kernel
theorem dM_init_166 : decode cM_init 166 = .ok (.dup, 1) := by decide +kernel
theorem dM_init_167 : decode cM_init 167 = .ok (.bipush 16, 2) := by decide +kernel
theorem dM_init_169 : decode cM_init 169 = .ok (.bipush 121, 2) := by decide +kernel
theorem dM_init_171 : decode cM_init 171 = .ok (.iastore, 1) := by decide +kernel
theorem dM_init_172 : decode cM_init 172 = .ok (.dup, 1) := by decide +kernel
theorem dM_init_173 : decode cM_init 173 = .ok (.bipush 17, 2) := by decide +kernel
theorem dM_init_175 : decode cM_init 175 = .ok (.bipush 115, 2) := by decide +kernel
theorem dM_init_177 : decode cM_init 177 = .ok (.iastore, 1) := by decide +kernel
theorem dM_init_178 : decode cM_init 178 = .ok (.dup, 1) := by decide +kernel
theorem dM_init_179 : decode cM_init 179 = .ok (.bipush 18, 2) := by decide +kernel
theorem dM_init_181 : decode cM_init 181 = .ok (.bipush 32, 2) := by decide +kernel
theorem dM_init_183 : decode cM_init 183 = .ok (.iastore, 1) := by decide +kernel
theorem dM_init_184 : decode cM_init 184 = .ok (.dup, 1) := by decide +kernel
theorem dM_init_185 : decode cM_init 185 = .ok (.bipush 19, 2) := by decide +kernel
theorem dM_init_187 : decode cM_init 187 = .ok (.bipush 119, 2) := by decide +kernel
theorem dM_init_189 : decode cM_init 189 = .ok (.iastore, 1) := by decide +kernel
theorem dM_init_190 : decode cM_init 190 = .ok (.dup, 1) := by decide +kernel
theorem dM_init_191 : decode cM_init 191 = .ok (.bipush 20, 2) := by decide +kernel
theorem dM_init_193 : decode cM_init 193 = .ok (.bipush 104, 2) := by decide +kernel
theorem dM_init_195 : decode cM_init 195 = .ok (.iastore, 1) := by decide +kernel
theorem dM_init_196 : decode cM_init 196 = .ok (.dup, 1) := by decide +kernel
theorem dM_init_197 : decode cM_init 197 = .ok (.bipush 21, 2) := by decide +kernel
theorem dM_init_199 : decode cM_init 199 = .ok (.bipush 101, 2) := by decide +kernel
theorem dM_init_201 : decode cM_init 201 = .ok (.iastore, 1) := by decide +kernel
theorem dM_init_202 : decode cM_init 202 = .ok (.dup, 1) := by decide +kernel
theorem dM_init_203 : decode cM_init 203 = .ok (.bipush 22, 2) := by decide +kernel
theorem dM_init_205 : decode cM_init 205 = .ok (.bipush 110, 2) := by decide +kernel
theorem dM_init_207 : decode cM_init 207 = .ok (.iastore, 1) := by decide +kernel
theorem dM_init_208 : decode cM_init 208 = .ok (.dup, 1) := by decide +kernel
theorem dM_init_209 : decode cM_init 209 = .ok (.bipush 23, 2) := by decide +kernel
theorem dM_init_211 : decode cM_init 211 = .ok (.bipush 32, 2) := by decide +kernel
theorem dM_init_213 : decode cM_init 213 = .ok (.iastore, 1) := by decide +kernel
theorem dM_init_214 : decode cM_init 214 = .ok (.dup, 1) := by decide +kernel
theorem dM_init_215 : decode cM_init 215 = .ok (.bipush 24, 2) := by decide +kernel
theorem dM_init_217 : decode cM_init 217 = .ok (.bipush 111, 2) := by decide +kernel
theorem dM_init_219 : decode cM_init 219 = .ok (.iastore, 1) := by decide +kernel
theorem dM_init_220 : decode cM_init 220 = .ok (.dup, 1) := by decide +kernel
theorem dM_init_221 : decode cM_init 221 = .ok (.bipush 25, 2) := by decide +kernel
theorem dM_init_223 : decode cM_init 223 = .ok (.bipush 114, 2) := by decide +kernel
theorem dM_init_225 : decode cM_init 225 = .ok (.iastore, 1) := by decide +kernel
theorem dM_init_226 : decode cM_init 226 = .ok (.dup, 1) := by decide +kernel
theorem dM_init_227 : decode cM_init 227 = .ok (.bipush 26, 2) := by decide +kernel
theorem dM_init_229 : decode cM_init 229 = .ok (.bipush 32, 2) := by decide +kernel
theorem dM_init_231 : decode cM_init 231 = .ok (.iastore, 1) := by decide +kernel
theorem dM_init_232 : decode cM_init 232 = .ok (.dup, 1) := by decide +kernel
theorem dM_init_233 : decode cM_init 233 = .ok (.bipush 27, 2) := by decide +kernel
theorem dM_init_235 : decode cM_init 235 = .ok (.bipush 97, 2) := by decide +kernel
theorem dM_init_237 : decode cM_init 237 = .ok (.iastore, 1) := by decide +kernel
theorem dM_init_238 : decode cM_init 238 = .ok (.dup, 1) := by decide +kernel
theorem dM_init_239 : decode cM_init 239 = .ok (.bipush 28, 2) := by decide +kernel
theorem dM_init_241 : decode cM_init 241 = .ok (.bipush 110, 2) := by decide +kernel
theorem dM_init_243 : decode cM_init 243 = .ok (.iastore, 1) := by decide +kernel
theorem dM_init_244 : decode cM_init 244 = .ok (.dup, 1) := by decide +kernel
theorem dM_init_245 : decode cM_init 245 = .ok (.bipush 29, 2) := by decide +kernel
theorem dM_init_247 : decode cM_init 247 = .ok (.bipush 100, 2) := by decide +kernel
theorem dM_init_249 : decode cM_init 249 = .ok (.iastore, 1) := by decide +kernel
theorem dM_init_250 : decode cM_init 250 = .ok (.dup, 1) := by decide +kernel
theorem dM_init_251 : decode cM_init 251 = .ok (.bipush 30, 2) := by decide +kernel
theorem dM_init_253 : decode cM_init 253 = .ok (.bipush 32, 2) := by decide +kernel
theorem dM_init_255 : decode cM_init 255 = .ok (.iastore, 1) := by decide +kernel
theorem dM_init_256 : decode cM_init 256 = .ok (.dup, 1) := by decide +kernel
theorem dM_init_257 : decode cM_init 257 = .ok (.bipush 31, 2) := by decide +kernel
theorem dM_init_259 : decode cM_init 259 = .ok (.bipush 110, 2) := by decide +kernel
theorem dM_init_261 : decode cM_init 261 = .ok (.iastore, 1) := by decide +kernel
theorem dM_init_262 : decode cM_init 262 = .ok (.dup, 1) := by decide +kernel
theorem dM_init_263 : decode cM_init 263 = .ok (.bipush 32, 2) := by decide +kernel
theorem dM_init_265 : decode cM_init 265 = .ok (.bipush 111, 2) := by decide +kernel
theorem dM_init_267 : decode cM_init 267 = .ok (.iastore, 1) := by decide +kernel
theorem dM_init_268 : decode cM_init 268 = .ok (.dup, 1) := by decide +kernel
theorem dM_init_269 : decode cM_init 269 = .ok (.bipush 33, 2) := by decide +kernel
theorem dM_init_271 : decode cM_init 271 = .ok (.bipush 116, 2) := by decide +kernel
theorem dM_init_273 : decode cM_init 273 = .ok (.iastore, 1) := by decide +kernel
theorem dM_init_274 : decode cM_init 274 = .ok (.dup, 1) := by decide +kernel
theorem dM_init_275 : decode cM_init 275 = .ok (.bipush 34, 2) := by decide +kernel
theorem dM_init_277 : decode cM_init 277 = .ok (.bipush 32, 2) := by decide +kernel
theorem dM_init_279 : decode cM_init 279 = .ok (.iastore, 1) := by decide +kernel
theorem dM_init_280 : decode cM_init 280 = .ok (.dup, 1) := by decide +kernel
theorem dM_init_281 : decode cM_init 281 = .ok (.bipush 35, 2) := by decide +kernel
theorem dM_init_283 : decode cM_init 283 = .ok (.bipush 118, 2) := by decide +kernel
theorem dM_init_285 : decode cM_init 285 = .ok (.iastore, 1) := by decide +kernel
theorem dM_init_286 : decode cM_init 286 = .ok (.dup, 1) := by decide +kernel
theorem dM_init_287 : decode cM_init 287 = .ok (.bipush 36, 2) := by decide +kernel
theorem dM_init_289 : decode cM_init 289 = .ok (.bipush 111, 2) := by decide +kernel
theorem dM_init_291 : decode cM_init 291 = .ok (.iastore, 1) := by decide +kernel
theorem dM_init_292 : decode cM_init 292 = .ok (.dup, 1) := by decide +kernel
theorem dM_init_293 : decode cM_init 293 = .ok (.bipush 37, 2) := by decide +kernel
theorem dM_init_295 : decode cM_init 295 = .ok (.bipush 105, 2) := by decide +kernel
theorem dM_init_297 : decode cM_init 297 = .ok (.iastore, 1) := by decide +kernel
theorem dM_init_298 : decode cM_init 298 = .ok (.dup, 1) := by decide +kernel
theorem dM_init_299 : decode cM_init 299 = .ok (.bipush 38, 2) := by decide +kernel
theorem dM_init_301 : decode cM_init 301 = .ok (.bipush 99, 2) := by decide +kernel
theorem dM_init_303 : decode cM_init 303 = .ok (.iastore, 1) := by decide +kernel
theorem dM_init_304 : decode cM_init 304 = .ok (.dup, 1) := by decide +kernel
theorem dM_init_305 : decode cM_init 305 = .ok (.bipush 39, 2) := by decide +kernel
theorem dM_init_307 : decode cM_init 307 = .ok (.bipush 101, 2) := by decide +kernel
theorem dM_init_309 : decode cM_init 309 = .ok (.iastore, 1) := by decide +kernel
theorem dM_init_310 : decode cM_init 310 = .ok (.dup, 1) := by decide +kernel
theorem dM_init_311 : decode cM_init 311 = .ok (.bipush 40, 2) := by decide +kernel
theorem dM_init_313 : decode cM_init 313 = .ok (.bipush 32, 2) := by decide +kernel
theorem dM_init_315 : decode cM_init 315 = .ok (.iastore, 1) := by decide +kernel
theorem dM_init_316 : decode cM_init 316 = .ok (.dup, 1) := by decide +kernel
theorem dM_init_317 : decode cM_init 317 = .ok (.bipush 41, 2) := by decide +kernel
theorem dM_init_319 : decode cM_init 319 = .ok (.bipush 108, 2) := by decide +kernel
theorem dM_init_321 : decode cM_init 321 = .ok (.iastore, 1) := by decide +kernel
theorem dM_init_322 : decode cM_init 322 = .ok (.dup, 1) := by decide +kernel
theorem dM_init_323 : decode cM_init 323 = .ok (.bipush 42, 2) := by decide +kernel
theorem dM_init_325 : decode cM_init 325 = .ok (.bipush 101, 2) := by decide +kernel
theorem dM_init_327 : decode cM_init 327 = .ok (.iastore, 1) := by decide +kernel
theorem dM_init_328 : decode cM_init 328 = .ok (.dup, 1) := by decide +kernel
theorem dM_init_329 : decode cM_init 329 = .ok (.bipush 43, 2) := by decide +kernel
theorem dM_init_331 : decode cM_init 331 = .ok (.bipush 103, 2) := by decide +kernel
theorem dM_init_333 : decode cM_init 333 = .ok (.iastore, 1) := by decide +kernel
theorem dM_init_334 : decode cM_init 334 = .ok (.dup, 1) := by decide +kernel
theorem dM_init_335 : decode cM_init 335 = .ok (.bipush 44, 2) := by decide +kernel
theorem dM_init_337 : decode cM_init 337 = .ok (.bipush 115, 2) := by decide +kernel
theorem dM_init_339 : decode cM_init 339 = .ok (.iastore, 1) := by decide +kernel
theorem dM_init_340 : decode cM_init 340 = .ok (.dup, 1) := by decide +kernel
theorem dM_init_341 : decode cM_init 341 = .ok (.bipush 45, 2) := by decide +kernel
theorem dM_init_343 : decode cM_init 343 = .ok (.bipush 32, 2) := by decide +kernel
theorem dM_init_345 : decode cM_init 345 = .ok (.iastore, 1) := by decide +kernel
theorem dM_init_346 : decode cM_init 346 = .ok (.dup, 1) := by decide +kernel
theorem dM_init_347 : decode cM_init 347 = .ok (.bipush 46, 2) := by decide +kernel
theorem dM_init_349 : decode cM_init 349 = .ok (.bipush 112, 2) := by decide +kernel
theorem dM_init_351 : decode cM_init 351 = .ok (.iastore, 1) := by decide +kernel
theorem dM_init_352 : decode cM_init 352 = .ok (.dup, 1) := by decide +kernel
theorem dM_init_353 : decode cM_init 353 = .ok (.bipush 47, 2) := by decide +kernel
theorem dM_init_355 : decode cM_init 355 = .ok (.bipush 97, 2) := by decide +kernel
theorem dM_init_357 : decode cM_init 357 = .ok (.iastore, 1) := by decide +kernel
theorem dM_init_358 : decode cM_init 358 = .ok (.dup, 1) := by decide +kernel
theorem dM_init_359 : decode cM_init 359 = .ok (.bipush 48, 2) := by decide +kernel
theorem dM_init_361 : decode cM_init 361 = .ok (.bipush 114, 2) := by decide +kernel
theorem dM_init_363 : decode cM_init 363 = .ok (.iastore, 1) := by decide +kernel
theorem dM_init_364 : decode cM_init 364 = .ok (.dup, 1) := by decide +kernel
theorem dM_init_365 : decode cM_init 365 = .ok (.bipush 49, 2) := by decide +kernel
theorem dM_init_367 : decode cM_init 367 = .ok (.bipush 116, 2) := by decide +kernel
theorem dM_init_369 : decode cM_init 369 = .ok (.iastore, 1) := by decide +kernel
theorem dM_init_370 : decode cM_init 370 = .ok (.dup, 1) := by decide +kernel
theorem dM_init_371 : decode cM_init 371 = .ok (.bipush 50, 2) := by decide +kernel
theorem dM_init_373 : decode cM_init 373 = .ok (.bipush 121, 2) := by decide +kernel
theorem dM_init_375 : decode cM_init 375 = .ok (.iastore, 1) := by decide +kernel
theorem dM_init_376 : decode cM_init 376 = .ok (.dup, 1) := by decide +kernel
theorem dM_init_377 : decode cM_init 377 = .ok (.bipush 51, 2) := by decide +kernel
theorem dM_init_379 : decode cM_init 379 = .ok (.bipush 32, 2) := by decide +kernel
theorem dM_init_381 : decode cM_init 381 = .ok (.iastore, 1) := by decide +kernel
theorem dM_init_382 : decode cM_init 382 = .ok (.dup, 1) := by decide +kernel
theorem dM_init_383 : decode cM_init 383 = .ok (.bipush 52, 2) := by decide +kernel
theorem dM_init_385 : decode cM_init 385 = .ok (.bipush 98, 2) := by decide +kernel
theorem dM_init_387 : decode cM_init 387 = .ok (.iastore, 1) := by decide +kernel
theorem dM_init_388 : decode cM_init 388 = .ok (.dup, 1) := by decide +kernel
theorem dM_init_389 : decode cM_init 389 = .ok (.bipush 53, 2) := by decide +kernel
theorem dM_init_391 : decode cM_init 391 = .ok (.bipush 114, 2) := by decide +kernel
theorem dM_init_393 : decode cM_init 393 = .ok (.iastore, 1) := by decide +kernel
theorem dM_init_394 : decode cM_init 394 = .ok (.dup, 1) := by decide +kernel
theorem dM_init_395 : decode cM_init 395 = .ok (.bipush 54, 2) := by decide +kernel
theorem dM_init_397 : decode cM_init 397 = .ok (.bipush 101, 2) := by decide +kernel
theorem dM_init_399 : decode cM_init 399 = .ok (.iastore, 1) := by decide +kernel
theorem dM_init_400 : decode cM_init 400 = .ok (.dup, 1) := by decide +kernel
theorem dM_init_401 : decode cM_init 401 = .ok (.bipush 55, 2) := by decide +kernel
theorem dM_init_403 : decode cM_init 403 = .ok (.bipush 97, 2) := by decide +kernel
theorem dM_init_405 : decode cM_init 405 = .ok (.iastore, 1) := by decide +kernel
theorem dM_init_406 : decode cM_init 406 = .ok (.dup, 1) := by decide +kernel
theorem dM_init_407 : decode cM_init 407 = .ok (.bipush 56, 2) := by decide +kernel
theorem dM_init_409 : decode cM_init 409 = .ok (.bipush 116, 2) := by decide +kernel
theorem dM_init_411 : decode cM_init 411 = .ok (.iastore, 1) := by decide +kernel
theorem dM_init_412 : decode cM_init 412 = .ok (.dup, 1) := by decide +kernel
theorem dM_init_413 : decode cM_init 413 = .ok (.bipush 57, 2) := by decide +kernel
theorem dM_init_415 : decode cM_init 415 = .ok (.bipush 104, 2) := by decide +kernel
theorem dM_init_417 : decode cM_init 417 = .ok (.iastore, 1) := by decide +kernel
theorem dM_init_418 : decode cM_init 418 = .ok (.dup, 1) := by decide +kernel
theorem dM_init_419 : decode cM_init 419 = .ok (.bipush 58, 2) := by decide +kernel
theorem dM_init_421 : decode cM_init 421 = .ok (.bipush 32, 2) := by decide +kernel
theorem dM_init_423 : decode cM_init 423 = .ok (.iastore, 1) := by decide +kernel
theorem dM_init_424 : decode cM_init 424 = .ok (.dup, 1) := by decide +kernel
theorem dM_init_425 : decode cM_init 425 = .ok (.bipush 59, 2) := by decide +kernel
theorem dM_init_427 : decode cM_init 427 = .ok (.bipush 104, 2) := by decide +kernel
theorem dM_init_429 : decode cM_init 429 = .ok (.iastore, 1) := by decide +kernel
theorem dM_init_430 : decode cM_init 430 = .ok (.dup, 1) := by decide +kernel
theorem dM_init_431 : decode cM_init 431 = .ok (.bipush 60, 2) := by decide +kernel
theorem dM_init_433 : decode cM_init 433 = .ok (.bipush 101, 2) := by decide +kernel
theorem dM_init_435 : decode cM_init 435 = .ok (.iastore, 1) := by decide +kernel
theorem dM_init_436 : decode cM_init 436 = .ok (.dup, 1) := by decide +kernel
theorem dM_init_437 : decode cM_init 437 = .ok (.bipush 61, 2) := by decide +kernel
theorem dM_init_439 : decode cM_init 439 = .ok (.bipush 105, 2) := by decide +kernel
theorem dM_init_441 : decode cM_init 441 = .ok (.iastore, 1) := by decide +kernel
theorem dM_init_442 : decode cM_init 442 = .ok (.dup, 1) := by decide +kernel
theorem dM_init_443 : decode cM_init 443 = .ok (.bipush 62, 2) := by decide +kernel
theorem dM_init_445 : decode cM_init 445 = .ok (.bipush 103, 2) := by decide +kernel
theorem dM_init_447 : decode cM_init 447 = .ok (.iastore, 1) := by decide +kernel
theorem dM_init_448 : decode cM_init 448 = .ok (.dup, 1) := by decide +kernel
theorem dM_init_449 : decode cM_init 449 = .ok (.bipush 63, 2) := by decide +kernel
theorem dM_init_451 : decode cM_init 451 = .ok (.bipush 104, 2) := by decide +kernel
theorem dM_init_453 : decode cM_init 453 = .ok (.iastore, 1) := by decide +kernel
theorem dM_init_454 : decode cM_init 454 = .ok (.dup, 1) := by decide +kernel
theorem dM_init_455 : decode cM_init 455 = .ok (.bipush 64, 2) := by decide +kernel
theorem dM_init_457 : decode cM_init 457 = .ok (.bipush 116, 2) := by decide +kernel
theorem dM_init_459 : decode cM_init 459 = .ok (.iastore, 1) := by decide +kernel
theorem dM_init_460 : decode cM_init 460 = .ok (.dup, 1) := by decide +kernel
theorem dM_init_461 : decode cM_init 461 = .ok (.bipush 65, 2) := by decide +kernel
theorem dM_init_463 : decode cM_init 463 = .ok (.bipush 32, 2) := by decide +kernel
theorem dM_init_465 : decode cM_init 465 = .ok (.iastore, 1) := by decide +kernel
theorem dM_init_466 : decode cM_init 466 = .ok (.dup, 1) := by decide +kernel
theorem dM_init_467 : decode cM_init 467 = .ok (.bipush 66, 2) := by decide +kernel
theorem dM_init_469 : decode cM_init 469 = .ok (.bipush 119, 2) := by decide +kernel
theorem dM_init_471 : decode cM_init 471 = .ok (.iastore, 1) := by decide +kernel
theorem dM_init_472 : decode cM_init 472 = .ok (.dup, 1) := by decide +kernel
theorem dM_init_473 : decode cM_init 473 = .ok (.bipush 67, 2) := by decide +kernel
theorem dM_init_475 : decode cM_init 475 = .ok (.bipush 111, 2) := by decide +kernel
theorem dM_init_477 : decode cM_init 477 = .ok (.iastore, 1) := by decide +kernel
theorem dM_init_478 : decode cM_init 478 = .ok (.dup, 1) := by decide +kernel
theorem dM_init_479 : decode cM_init 479 = .ok (.bipush 68, 2) := by decide +kernel
theorem dM_init_481 : decode cM_init 481 = .ok (.bipush 114, 2) := by decide +kernel
theorem dM_init_483 : decode cM_init 483 = .ok (.iastore, 1) := by decide +kernel
theorem dM_init_484 : decode cM_init 484 = .ok (.dup, 1) := by decide +kernel
theorem dM_init_485 : decode cM_init 485 = .ok (.bipush 69, 2) := by decide +kernel
theorem dM_init_487 : decode cM_init 487 = .ok (.bipush 100, 2) := by decide +kernel
theorem dM_init_489 : decode cM_init 489 = .ok (.iastore, 1) := by decide +kernel
theorem dM_init_490 : decode cM_init 490 = .ok (.dup, 1) := by decide +kernel
theorem dM_init_491 : decode cM_init 491 = .ok (.bipush 70, 2) := by decide +kernel
theorem dM_init_493 : decode cM_init 493 = .ok (.bipush 32, 2) := by decide +kernel
theorem dM_init_495 : decode cM_init 495 = .ok (.iastore, 1) := by decide +kernel
theorem dM_init_496 : decode cM_init 496 = .ok (.dup, 1) := by decide +kernel
theorem dM_init_497 : decode cM_init 497 = .ok (.bipush 71, 2) := by decide +kernel
theorem dM_init_499 : decode cM_init 499 = .ok (.bipush 108, 2) := by decide +kernel
theorem dM_init_501 : decode cM_init 501 = .ok (.iastore, 1) := by decide +kernel
theorem dM_init_502 : decode cM_init 502 = .ok (.dup, 1) := by decide +kernel
theorem dM_init_503 : decode cM_init 503 = .ok (.bipush 72, 2) := by decide +kernel
theorem dM_init_505 : decode cM_init 505 = .ok (.bipush 101, 2) := by decide +kernel
theorem dM_init_507 : decode cM_init 507 = .ok (.iastore, 1) := by decide +kernel
theorem dM_init_508 : decode cM_init 508 = .ok (.dup, 1) := by decide +kernel
theorem dM_init_509 : decode cM_init 509 = .ok (.bipush 73, 2) := by decide +kernel
theorem dM_init_511 : decode cM_init 511 = .ok (.bipush 102, 2) := by decide +kernel
theorem dM_init_513 : decode cM_init 513 = .ok (.iastore, 1) := by decide +kernel
theorem dM_init_514 : decode cM_init 514 = .ok (.dup, 1) := by decide +kernel
theorem dM_init_515 : decode cM_init 515 = .ok (.bipush 74, 2) := by decide +kernel
theorem dM_init_517 : decode cM_init 517 = .ok (.bipush 116, 2) := by decide +kernel
theorem dM_init_519 : decode cM_init 519 = .ok (.iastore, 1) := by decide +kernel
theorem dM_init_520 : decode cM_init 520 = .ok (.dup, 1) := by decide +kernel
theorem dM_init_521 : decode cM_init 521 = .ok (.bipush 75, 2) := by decide +kernel
theorem dM_init_523 : decode cM_init 523 = .ok (.bipush 32, 2) := by decide +kernel
theorem dM_init_525 : decode cM_init 525 = .ok (.iastore, 1) := by decide +kernel
theorem dM_init_526 : decode cM_init 526 = .ok (.dup, 1) := by decide +kernel
theorem dM_init_527 : decode cM_init 527 = .ok (.bipush 76, 2) := by decide +kernel
theorem dM_init_529 : decode cM_init 529 = .ok (.bipush 111, 2) := by decide +kernel
theorem dM_init_531 : decode cM_init 531 = .ok (.iastore, 1) := by decide +kernel
theorem dM_init_532 : decode cM_init 532 = .ok (.dup, 1) := by decide +kernel
theorem dM_init_533 : decode cM_init 533 = .ok (.bipush 77, 2) := by decide +kernel
theorem dM_init_535 : decode cM_init 535 = .ok (.bipush 116, 2) := by decide +kernel
theorem dM_init_537 : decode cM_init 537 = .ok (.iastore, 1) := by decide +kernel
theorem dM_init_538 : decode cM_init 538 = .ok (.dup, 1) := by decide +kernel
theorem dM_init_539 : decode cM_init 539 = .ok (.bipush 78, 2) := by decide +kernel
theorem dM_init_541 : decode cM_init 541 = .ok (.bipush 104, 2) := by decide +kernel
theorem dM_init_543 : decode cM_init 543 = .ok (.iastore, 1) := by decide +kernel
theorem dM_init_544 : decode cM_init 544 = .ok (.dup, 1) := by decide +kernel
theorem dM_init_545 : decode cM_init 545 = .ok (.bipush 79, 2) := by decide +kernel
theorem dM_init_547 : decode cM_init 547 = .ok (.bipush 101, 2) := by decide +kernel
theorem dM_init_549 : decode cM_init 549 = .ok (.iastore, 1) := by decide +kernel
theorem dM_init_550 : decode cM_init 550 = .ok (.dup, 1) := by decide +kernel
theorem dM_init_551 : decode cM_init 551 = .ok (.bipush 80, 2) := by decide +kernel
theorem dM_init_553 : decode cM_init 553 = .ok (.bipush 114, 2) := by decide +kernel
theorem dM_init_555 : decode cM_init 555 = .ok (.iastore, 1) := by decide +kernel
theorem dM_init_556 : decode cM_init 556 = .ok (.dup, 1) := by decide +kernel
theorem dM_init_557 : decode cM_init 557 = .ok (.bipush 81, 2) := by decide +kernel
theorem dM_init_559 : decode cM_init 559 = .ok (.bipush 115, 2) := by decide +kernel
theorem dM_init_561 : decode cM_init 561 = .ok (.iastore, 1) := by decide +kernel
theorem dM_init_562 : decode cM_init 562 = .ok (.dup, 1) := by decide +kernel
theorem dM_init_563 : decode cM_init 563 = .ok (.bipush 82, 2) := by decide +kernel
theorem dM_init_565 : decode cM_init 565 = .ok (.bipush 32, 2) := by decide +kernel
theorem dM_init_567 : decode cM_init 567 = .ok (.iastore, 1) := by decide +kernel
theorem dM_init_568 : decode cM_init 568 = .ok (.dup, 1) := by decide +kernel
theorem dM_init_569 : decode cM_init 569 = .ok (.bipush 83, 2) := by decide +kernel
theorem dM_init_571 : decode cM_init 571 = .ok (.bipush 100, 2) := by decide +kernel
theorem dM_init_573 : decode cM_init 573 = .ok (.iastore, 1) := by decide +kernel
theorem dM_init_574 : decode cM_init 574 = .ok (.dup, 1) := by decide +kernel
theorem dM_init_575 : decode cM_init 575 = .ok (.bipush 84, 2) := by decide +kernel
theorem dM_init_577 : decode cM_init 577 = .ok (.bipush 97, 2) := by decide +kernel
theorem dM_init_579 : decode cM_init 579 = .ok (.iastore, 1) := by decide +kernel
theorem dM_init_580 : decode cM_init 580 = .ok (.dup, 1) := by decide +kernel
theorem dM_init_581 : decode cM_init 581 = .ok (.bipush 85, 2) := by decide +kernel
theorem dM_init_583 : decode cM_init 583 = .ok (.bipush 121, 2) := by decide +kernel
theorem dM_init_585 : decode cM_init 585 = .ok (.iastore, 1) := by decide +kernel
theorem dM_init_586 : decode cM_init 586 = .ok (.dup, 1) := by decide +kernel
theorem dM_init_587 : decode cM_init 587 = .ok (.bipush 86, 2) := by decide +kernel
theorem dM_init_589 : decode cM_init 589 = .ok (.bipush 32, 2) := by decide +kernel
theorem dM_init_591 : decode cM_init 591 = .ok (.iastore, 1) := by decide +kernel
theorem dM_init_592 : decode cM_init 592 = .ok (.dup, 1) := by decide +kernel
theorem dM_init_593 : decode cM_init 593 = .ok (.bipush 87, 2) := by decide +kernel
theorem dM_init_595 : decode cM_init 595 = .ok (.bipush 111, 2) := by decide +kernel
theorem dM_init_597 : decode cM_init 597 = .ok (.iastore, 1) := by decide +kernel
theorem dM_init_598 : decode cM_init 598 = .ok (.dup, 1) := by decide +kernel
theorem dM_init_599 : decode cM_init 599 = .ok (.bipush 88, 2) := by decide +kernel
theorem dM_init_601 : decode cM_init 601 = .ok (.bipush 110, 2) := by decide +kernel
theorem dM_init_603 : decode cM_init 603 = .ok (.iastore, 1) := by decide +kernel
theorem dM_init_604 : decode cM_init 604 = .ok (.dup, 1) := by decide +kernel
theorem dM_init_605 : decode cM_init 605 = .ok (.bipush 89, 2) := by decide +kernel
theorem dM_init_607 : decode cM_init 607 = .ok (.bipush 32, 2) := by decide +kernel
theorem dM_init_609 : decode cM_init 609 = .ok (.iastore, 1) := by decide +kernel
theorem dM_init_610 : decode cM_init 610 = .ok (.dup, 1) := by decide +kernel
theorem dM_init_611 : decode cM_init 611 = .ok (.bipush 90, 2) := by decide +kernel
theorem dM_init_613 : decode cM_init 613 = .ok (.bipush 112, 2) := by decide +kernel
theorem dM_init_615 : decode cM_init 615 = .ok (.iastore, 1) := by decide +kernel
theorem dM_init_616 : decode cM_init 616 = .ok (.dup, 1) := by decide +kernel
theorem dM_init_617 : decode cM_init 617 = .ok (.bipush 91, 2) := by decide +kernel
theorem dM_init_619 : decode cM_init 619 = .ok (.bipush 101, 2) := by decide +kernel
theorem dM_init_621 : decode cM_init 621 = .ok (.iastore, 1) := by decide +kernel
theorem dM_init_622 : decode cM_init 622 = .ok (.dup, 1) := by decide +kernel
theorem dM_init_623 : decode cM_init 623 = .ok (.bipush 92, 2) := by decide +kernel
theorem dM_init_625 : decode cM_init 625 = .ok (.bipush 114, 2) := by decide +kernel
theorem dM_init_627 : decode cM_init 627 = .ok (.iastore, 1) := by decide +kernel
theorem dM_init_628 : decode cM_init 628 = .ok (.dup, 1) := by decide +kernel
theorem dM_init_629 : decode cM_init 629 = .ok (.bipush 93, 2) := by decide +kernel
theorem dM_init_631 : decode cM_init 631 = .ok (.bipush 115, 2) := by decide +kernel
theorem dM_init_633 : decode cM_init 633 = .ok (.iastore, 1) := by decide +kernel
theorem dM_init_634 : decode cM_init 634 = .ok (.dup, 1) := by decide +kernel
theorem dM_init_635 : decode cM_init 635 = .ok (.bipush 94, 2) := by decide +kernel
theorem dM_init_637 : decode cM_init 637 = .ok (.bipush 111, 2) := by decide +kernel
theorem dM_init_639 : decode cM_init 639 = .ok (.iastore, 1) := by decide +kernel
theorem dM_init_640 : decode cM_init 640 = .ok (.dup, 1) := by decide +kernel
theorem dM_init_641 : decode cM_init 641 = .ok (.bipush 95, 2) := by decide +kernel
theorem dM_init_643 : decode cM_init 643 = .ok (.bipush 110, 2) := by decide +kernel
theorem dM_init_645 : decode cM_init 645 = .ok (.iastore, 1) := by decide +kernel
theorem dM_init_646 : decode cM_init 646 = .ok (.dup, 1) := by decide +kernel
theorem dM_init_647 : decode cM_init 647 = .ok (.bipush 96, 2) := by decide +kernel
theorem dM_init_649 : decode cM_init 649 = .ok (.bipush 32, 2) := by decide +kernel
theorem dM_init_651 : decode cM_init 651 = .ok (.iastore, 1) := by decide +kernel
theorem dM_init_652 : decode cM_init 652 = .ok (.dup, 1) := by decide +kernel
theorem dM_init_653 : decode cM_init 653 = .ok (.bipush 97, 2) := by decide +kernel
theorem dM_init_655 : decode cM_init 655 = .ok (.bipush 119, 2) := by decide +kernel
theorem dM_init_657 : decode cM_init 657 = .ok (.iastore, 1) := by decide +kernel
theorem dM_init_658 : decode cM_init 658 = .ok (.dup, 1) := by decide +kernel
theorem dM_init_659 : decode cM_init 659 = .ok (.bipush 98, 2) := by decide +kernel
theorem dM_init_661 : decode cM_init 661 = .ok (.bipush 105, 2) := by decide +kernel
theorem dM_init_663 : decode cM_init 663 = .ok (.iastore, 1) := by decide +kernel
theorem dM_init_664 : decode cM_init 664 = .ok (.dup, 1) := by decide +kernel
theorem dM_init_665 : decode cM_init 665 = .ok (.bipush 99, 2) := by decide +kernel
theorem dM_init_667 : decode cM_init 667 = .ok (.bipush 116, 2) := by decide +kernel
theorem dM_init_669 : decode cM_init 669 = .ok (.iastore, 1) := by decide +kernel
theorem dM_init_670 : decode cM_init 670 = .ok (.dup, 1) := by decide +kernel
theorem dM_init_671 : decode cM_init 671 = .ok (.bipush 100, 2) := by decide +kernel
theorem dM_init_673 : decode cM_init 673 = .ok (.bipush 104, 2) := by decide +kernel
theorem dM_init_675 : decode cM_init 675 = .ok (.iastore, 1) := by decide +kernel
theorem dM_init_676 : decode cM_init 676 = .ok (.dup, 1) := by decide +kernel
theorem dM_init_677 : decode cM_init 677 = .ok (.bipush 101, 2) := by decide +kernel
theorem dM_init_679 : decode cM_init 679 = .ok (.bipush 32, 2) := by decide +kernel
theorem dM_init_681 : decode cM_init 681 = .ok (.iastore, 1) := by decide +kernel
theorem dM_init_682 : decode cM_init 682 = .ok (.dup, 1) := by decide +kernel
theorem dM_init_683 : decode cM_init 683 = .ok (.bipush 102, 2) := by decide +kernel
theorem dM_init_685 : decode cM_init 685 = .ok (.bipush 97, 2) := by decide +kernel
theorem dM_init_687 : decode cM_init 687 = .ok (.iastore, 1) := by decide +kernel
theorem dM_init_688 : decode cM_init 688 = .ok (.dup, 1) := by decide +kernel
theorem dM_init_689 : decode cM_init 689 = .ok (.bipush 103, 2) := by decide +kernel
theorem dM_init_691 : decode cM_init 691 = .ok (.bipush 116, 2) := by decide +kernel
theorem dM_init_693 : decode cM_init 693 = .ok (.iastore, 1) := by decide +kernel
theorem dM_init_694 : decode cM_init 694 = .ok (.dup, 1) := by decide +kernel
theorem dM_init_695 : decode cM_init 695 = .ok (.bipush 104, 2) := by decide +kernel
theorem dM_init_697 : decode cM_init 697 = .ok (.bipush 32, 2) := by decide +kernel
theorem dM_init_699 : decode cM_init 699 = .ok (.iastore, 1) := by decide +kernel
theorem dM_init_700 : decode cM_init 700 = .ok (.dup, 1) := by decide +kernel
theorem dM_init_701 : decode cM_init 701 = .ok (.bipush 105, 2) := by decide +kernel
theorem dM_init_703 : decode cM_init 703 = .ok (.bipush 102, 2) := by decide +kernel
theorem dM_init_705 : decode cM_init 705 = .ok (.iastore, 1) := by decide +kernel
theorem dM_init_706 : decode cM_init 706 = .ok (.dup, 1) := by decide +kernel
theorem dM_init_707 : decode cM_init 707 = .ok (.bipush 106, 2) := by decide +kernel
theorem dM_init_709 : decode cM_init 709 = .ok (.bipush 114, 2) := by decide +kernel
theorem dM_init_711 : decode cM_init 711 = .ok (.iastore, 1) := by decide +kernel
theorem dM_init_712 : decode cM_init 712 = .ok (.dup, 1) := by decide +kernel
theorem dM_init_713 : decode cM_init 713 = .ok (.bipush 107, 2) := by decide +kernel
theorem dM_init_715 : decode cM_init 715 = .ok (.bipush 111, 2) := by decide +kernel
theorem dM_init_717 : decode cM_init 717 = .ok (.iastore, 1) := by decide +kernel
theorem dM_init_718 : decode cM_init 718 = .ok (.dup, 1) := by decide +kernel
theorem dM_init_719 : decode cM_init 719 = .ok (.bipush 108, 2) := by decide +kernel
theorem dM_init_721 : decode cM_init 721 = .ok (.bipush 109, 2) := by decide +kernel
theorem dM_init_723 : decode cM_init 723 = .ok (.iastore, 1) := by decide +kernel
theorem dM_init_724 : decode cM_init 724 = .ok (.dup, 1) := by decide +kernel
theorem dM_init_725 : decode cM_init 725 = .ok (.bipush 109, 2) := by decide +kernel
theorem dM_init_727 : decode cM_init 727 = .ok (.bipush 32, 2) := by decide +kernel
theorem dM_init_729 : decode cM_init 729 = .ok (.iastore, 1) := by decide +kernel
theorem dM_init_730 : decode cM_init 730 = .ok (.dup, 1) := by decide +kernel
theorem dM_init_731 : decode cM_init 731 = .ok (.bipush 110, 2) := by decide +kernel
theorem dM_init_733 : decode cM_init 733 = .ok (.bipush 115, 2) := by decide +kernel
theorem dM_init_735 : decode cM_init 735 = .ok (.iastore, 1) := by decide +kernel
theorem dM_init_736 : decode cM_init 736 = .ok (.dup, 1) := by decide +kernel
theorem dM_init_737 : decode cM_init 737 = .ok (.bipush 111, 2) := by decide +kernel
theorem dM_init_739 : decode cM_init 739 = .ok (.bipush 101, 2) := by decide +kernel
theorem dM_init_741 : decode cM_init 741 = .ok (.iastore, 1) := by decide +kernel
theorem dM_init_742 : decode cM_init 742 = .ok (.dup, 1) := by decide +kernel
theorem dM_init_743 : decode cM_init 743 = .ok (.bipush 112, 2) := by decide +kernel
theorem dM_init_745 : decode cM_init 745 = .ok (.bipush 116, 2) := by decide +kernel
theorem dM_init_747 : decode cM_init 747 = .ok (.iastore, 1) := by decide +kernel
theorem dM_init_748 : decode cM_init 748 = .ok (.dup, 1) := by decide +kernel
theorem dM_init_749 : decode cM_init 749 = .ok (.bipush 113, 2) := by decide +kernel
theorem dM_init_751 : decode cM_init 751 = .ok (.bipush 32, 2) := by decide +kernel
theorem dM_init_753 : decode cM_init 753 = .ok (.iastore, 1) := by decide +kernel
theorem dM_init_754 : decode cM_init 754 = .ok (.dup, 1) := by decide +kernel
theorem dM_init_755 : decode cM_init 755 = .ok (.bipush 114, 2) := by decide +kernel
theorem dM_init_757 : decode cM_init 757 = .ok (.bipush 97, 2) := by decide +kernel
theorem dM_init_759 : decode cM_init 759 = .ok (.iastore, 1) := by decide +kernel
theorem dM_init_760 : decode cM_init 760 = .ok (.dup, 1) := by decide +kernel
theorem dM_init_761 : decode cM_init 761 = .ok (.bipush 115, 2) := by decide +kernel
theorem dM_init_763 : decode cM_init 763 = .ok (.bipush 110, 2) := by decide +kernel
theorem dM_init_765 : decode cM_init 765 = .ok (.iastore, 1) := by decide +kernel
theorem dM_init_766 : decode cM_init 766 = .ok (.dup, 1) := by decide +kernel
theorem dM_init_767 : decode cM_init 767 = .ok (.bipush 116, 2) := by decide +kernel
theorem dM_init_769 : decode cM_init 769 = .ok (.bipush 115, 2) := by decide +kernel
theorem dM_init_771 : decode cM_init 771 = .ok (.iastore, 1) := by decide +kernel
theorem dM_init_772 : decode cM_init 772 = .ok (.dup, 1) := by decide +kernel
theorem dM_init_773 : decode cM_init 773 = .ok (.bipush 117, 2) := by decide +kernel
theorem dM_init_775 : decode cM_init 775 = .ok (.bipush 119, 2) := by decide +kernel
theorem dM_init_777 : decode cM_init 777 = .ok (.iastore, 1) := by decide +kernel
theorem dM_init_778 : decode cM_init 778 = .ok (.dup, 1) := by decide +kernel
theorem dM_init_779 : decode cM_init 779 = .ok (.bipush 118, 2) := by decide +kernel
theorem dM_init_781 : decode cM_init 781 = .ok (.bipush 101, 2) := by decide +kernel
theorem dM_init_783 : decode cM_init 783 = .ok (.iastore, 1) := by decide +kernel
theorem dM_init_784 : decode cM_init 784 = .ok (.dup, 1) := by decide +kernel
theorem dM_init_785 : decode cM_init 785 = .ok (.bipush 119, 2) := by decide +kernel
theorem dM_init_787 : decode cM_init 787 = .ok (.bipush 114, 2) := by decide +kernel
theorem dM_init_789 : decode cM_init 789 = .ok (.iastore, 1) := by decide +kernel
theorem dM_init_790 : decode cM_init 790 = .ok (.dup, 1) := by decide +kernel
theorem dM_init_791 : decode cM_init 791 = .ok (.bipush 120, 2) := by decide +kernel
theorem dM_init_793 : decode cM_init 793 = .ok (.bipush 115, 2) := by decide +kernel
theorem dM_init_795 : decode cM_init 795 = .ok (.iastore, 1) := by decide +kernel
theorem dM_init_796 : decode cM_init 796 = .ok (.dup, 1) := by decide +kernel
theorem dM_init_797 : decode cM_init 797 = .ok (.bipush 121, 2) := by decide +kernel
theorem dM_init_799 : decode cM_init 799 = .ok (.bipush 32, 2) := by decide +kernel
theorem dM_init_801 : decode cM_init 801 = .ok (.iastore, 1) := by decide +kernel
theorem dM_init_802 : decode cM_init 802 = .ok (.putfield 34, 3) := by decide +kernel
theorem ff_12_17 : FLf "LastWordHillModel" 12 17 (.array .int) := ⟨_, _, _, _, rfl, nY12, nN12, by decide, by decide, by decide⟩
theorem dM_init_805 : decode cM_init 805 = .ok (.aload_n 0, 1) := by decide +kernel
theorem dM_init_806 : decode cM_init 806 = .ok (.iconst 2, 1) := by decide +kernel
theorem dM_init_807 : decode cM_init 807 = .ok (.newarray .int, 2) := by decide +kernel
theorem dM_init_809 : decode cM_init 809 = .ok (.putfield 37, 3) := by decide +kernel
theorem ff_12_18 : FLf "LastWordHillModel" 12 18 (.array .int) := ⟨_, _, _, _, rfl, nY12, nN12, by decide, by decide, by decide⟩
theorem dM_init_812 : decode cM_init 812 = .ok (.aload_n 0, 1) := by decide +kernel
theorem dM_init_813 : decode cM_init 813 = .ok (.bipush 48, 2) := by decide +kernel
theorem dM_init_815 : decode cM_init 815 = .ok (.newarray .int, 2) := by decide +kernel
theorem dM_init_817 : decode cM_init 817 = .ok (.putfield 40, 3) := by decide +kernel
theorem ff_12_19 : FLf "LastWordHillModel" 12 19 (.array .int) := ⟨_, _, _, _, rfl, nY12, nN12, by decide, by decide, by decide⟩
theorem dM_init_820 : decode cM_init 820 = .ok (.aload_n 0, 1) := by decide +kernel
theorem dM_init_821 : decode cM_init 821 = .ok (.bipush 48, 2) := by decide +kernel
theorem dM_init_823 : decode cM_init 823 = .ok (.newarray .int, 2) := by decide +kernel
theorem dM_init_825 : decode cM_init 825 = .ok (.putfield 43, 3) := by decide +kernel
theorem ff_12_20 : FLf "LastWordHillModel" 12 20 (.array .int) := ⟨_, _, _, _, rfl, nY12, nN12, by decide, by decide, by decide⟩
theorem dM_init_828 : decode cM_init 828 = .ok (.aload_n 0, 1) := by decide +kernel
theorem dM_init_829 : decode cM_init 829 = .ok (.bipush 48, 2) := by decide +kernel
theorem dM_init_831 : decode cM_init 831 = .ok (.newarray .int, 2) := by decide +kernel
theorem dM_init_833 : decode cM_init 833 = .ok (.putfield 46, 3) := by decide +kernel
theorem ff_12_21 : FLf "LastWordHillModel" 12 21 (.array .int) := ⟨_, _, _, _, rfl, nY12, nN12, by decide, by decide, by decide⟩
theorem dM_init_836 : decode cM_init 836 = .ok (.aload_n 0, 1) := by decide +kernel
theorem dM_init_837 : decode cM_init 837 = .ok (.bipush 48, 2) := by decide +kernel
theorem dM_init_839 : decode cM_init 839 = .ok (.newarray .int, 2) := by decide +kernel
theorem dM_init_841 : decode cM_init 841 = .ok (.putfield 49, 3) := by decide +kernel
theorem ff_12_22 : FLf "LastWordHillModel" 12 22 (.array .int) := ⟨_, _, _, _, rfl, nY12, nN12, by decide, by decide, by decide⟩
theorem dM_init_844 : decode cM_init 844 = .ok (.aload_n 0, 1) := by decide +kernel
theorem dM_init_845 : decode cM_init 845 = .ok (.sipush 1200, 3) := by decide +kernel
theorem dM_init_848 : decode cM_init 848 = .ok (.newarray .int, 2) := by decide +kernel
theorem dM_init_850 : decode cM_init 850 = .ok (.putfield 52, 3) := by decide +kernel
theorem ff_12_23 : FLf "LastWordHillModel" 12 23 (.array .int) := ⟨_, _, _, _, rfl, nY12, nN12, by decide, by decide, by decide⟩
theorem dM_init_853 : decode cM_init 853 = .ok (.aload_n 0, 1) := by decide +kernel
theorem dM_init_854 : decode cM_init 854 = .ok (.sipush 1200, 3) := by decide +kernel
theorem dM_init_857 : decode cM_init 857 = .ok (.newarray .int, 2) := by decide +kernel
theorem dM_init_859 : decode cM_init 859 = .ok (.putfield 55, 3) := by decide +kernel
theorem ff_12_24 : FLf "LastWordHillModel" 12 24 (.array .int) := ⟨_, _, _, _, rfl, nY12, nN12, by decide, by decide, by decide⟩
theorem dM_init_862 : decode cM_init 862 = .ok (.aload_n 0, 1) := by decide +kernel
theorem dM_init_863 : decode cM_init 863 = .ok (.bipush 40, 2) := by decide +kernel
theorem dM_init_865 : decode cM_init 865 = .ok (.newarray .int, 2) := by decide +kernel
theorem dM_init_867 : decode cM_init 867 = .ok (.putfield 58, 3) := by decide +kernel
theorem ff_12_28 : FLf "LastWordHillModel" 12 28 (.array .int) := ⟨_, _, _, _, rfl, nY12, nN12, by decide, by decide, by decide⟩
theorem dM_init_870 : decode cM_init 870 = .ok (.aload_n 0, 1) := by decide +kernel
theorem dM_init_871 : decode cM_init 871 = .ok (.iconst (-1), 1) := by decide +kernel
theorem dM_init_872 : decode cM_init 872 = .ok (.putfield 61, 3) := by decide +kernel
theorem dM_init_875 : decode cM_init 875 = .ok (.aload_n 0, 1) := by decide +kernel
theorem dM_init_876 : decode cM_init 876 = .ok (.sipush 128, 3) := by decide +kernel
theorem dM_init_879 : decode cM_init 879 = .ok (.newarray .int, 2) := by decide +kernel
theorem dM_init_881 : decode cM_init 881 = .ok (.putfield 65, 3) := by decide +kernel
theorem ff_12_35 : FLf "LastWordHillModel" 12 35 (.array .int) := ⟨_, _, _, _, rfl, nY12, nN12, by decide, by decide, by decide⟩
theorem dM_init_884 : decode cM_init 884 = .ok (.aload_n 0, 1) := by decide +kernel
theorem dM_init_885 : decode cM_init 885 = .ok (.bipush 64, 2) := by decide +kernel
theorem dM_init_887 : decode cM_init 887 = .ok (.newarray .int, 2) := by decide +kernel
theorem dM_init_889 : decode cM_init 889 = .ok (.putfield 68, 3) := by decide +kernel
theorem ff_12_37 : FLf "LastWordHillModel" 12 37 (.array .int) := ⟨_, _, _, _, rfl, nY12, nN12, by decide, by decide, by decide⟩
theorem dM_init_892 : decode cM_init 892 = .ok (.aload_n 0, 1) := by decide +kernel
theorem dM_init_893 : decode cM_init 893 = .ok (.bipush 40, 2) := by decide +kernel
theorem dM_init_895 : decode cM_init 895 = .ok (.newarray .int, 2) := by decide +kernel
theorem dM_init_897 : decode cM_init 897 = .ok (.putfield 71, 3) := by decide +kernel
theorem ff_12_39 : FLf "LastWordHillModel" 12 39 (.array .int) := ⟨_, _, _, _, rfl, nY12, nN12, by decide, by decide, by decide⟩
theorem dM_init_900 : decode cM_init 900 = .ok (.aload_n 0, 1) := by decide +kernel
theorem dM_init_901 : decode cM_init 901 = .ok (.bipush 9, 2) := by decide +kernel
theorem dM_init_903 : decode cM_init 903 = .ok (.newarray .int, 2) := by decide +kernel
theorem dM_init_905 : decode cM_init 905 = .ok (.putfield 74, 3) := by decide +kernel
theorem ff_12_40 : FLf "LastWordHillModel" 12 40 (.array .int) := ⟨_, _, _, _, rfl, nY12, nN12, by decide, by decide, by decide⟩
theorem dM_init_908 : decode cM_init 908 = .ok (.aload_n 0, 1) := by decide +kernel
theorem dM_init_909 : decode cM_init 909 = .ok (.sipush 420, 3) := by decide +kernel
theorem dM_init_912 : decode cM_init 912 = .ok (.newarray .int, 2) := by decide +kernel
theorem dM_init_914 : decode cM_init 914 = .ok (.putfield 77, 3) := by decide +kernel
theorem ff_12_41 : FLf "LastWordHillModel" 12 41 (.array .int) := ⟨_, _, _, _, rfl, nY12, nN12, by decide, by decide, by decide⟩
theorem dM_init_917 : decode cM_init 917 = .ok (.aload_n 0, 1) := by decide +kernel
theorem dM_init_918 : decode cM_init 918 = .ok (.sipush 21504, 3) := by decide +kernel
theorem dM_init_921 : decode cM_init 921 = .ok (.newarray .int, 2) := by decide +kernel
theorem dM_init_923 : decode cM_init 923 = .ok (.putfield 80, 3) := by decide +kernel
theorem ff_12_42 : FLf "LastWordHillModel" 12 42 (.array .int) := ⟨_, _, _, _, rfl, nY12, nN12, by decide, by decide, by decide⟩
theorem dM_init_926 : decode cM_init 926 = .ok (.aload_n 0, 1) := by decide +kernel
theorem dM_init_927 : decode cM_init 927 = .ok (.bipush 10, 2) := by decide +kernel
theorem dM_init_929 : decode cM_init 929 = .ok (.newarray .int, 2) := by decide +kernel
theorem dM_init_931 : decode cM_init 931 = .ok (.putfield 83, 3) := by decide +kernel
theorem ff_12_44 : FLf "LastWordHillModel" 12 44 (.array .int) := ⟨_, _, _, _, rfl, nY12, nN12, by decide, by decide, by decide⟩
theorem dM_init_934 : decode cM_init 934 = .ok (.aload_n 0, 1) := by decide +kernel
theorem dM_init_935 : decode cM_init 935 = .ok (.bipush 10, 2) := by decide +kernel
theorem dM_init_937 : decode cM_init 937 = .ok (.newarray .int, 2) := by decide +kernel
theorem dM_init_939 : decode cM_init 939 = .ok (.putfield 86, 3) := by decide +kernel
theorem ff_12_45 : FLf "LastWordHillModel" 12 45 (.array .int) := ⟨_, _, _, _, rfl, nY12, nN12, by decide, by decide, by decide⟩
theorem dM_init_942 : decode cM_init 942 = .ok (.aload_n 0, 1) := by decide +kernel
theorem dM_init_943 : decode cM_init 943 = .ok (.bipush 9, 2) := by decide +kernel
theorem dM_init_945 : decode cM_init 945 = .ok (.newarray .int, 2) := by decide +kernel
theorem dM_init_947 : decode cM_init 947 = .ok (.putfield 89, 3) := by decide +kernel
theorem ff_12_47 : FLf "LastWordHillModel" 12 47 (.array .int) := ⟨_, _, _, _, rfl, nY12, nN12, by decide, by decide, by decide⟩
theorem dM_init_950 : decode cM_init 950 = .ok (.aload_n 0, 1) := by decide +kernel
theorem dM_init_951 : decode cM_init 951 = .ok (.bipush 9, 2) := by decide +kernel
theorem dM_init_953 : decode cM_init 953 = .ok (.newarray .int, 2) := by decide +kernel
theorem dM_init_955 : decode cM_init 955 = .ok (.putfield 92, 3) := by decide +kernel
theorem ff_12_48 : FLf "LastWordHillModel" 12 48 (.array .int) := ⟨_, _, _, _, rfl, nY12, nN12, by decide, by decide, by decide⟩
theorem dM_init_958 : decode cM_init 958 = .ok (.aload_n 0, 1) := by decide +kernel
theorem dM_init_959 : decode cM_init 959 = .ok (.sipush 200, 3) := by decide +kernel
theorem dM_init_962 : decode cM_init 962 = .ok (.newarray .int, 2) := by decide +kernel
theorem dM_init_964 : decode cM_init 964 = .ok (.putfield 95, 3) := by decide +kernel
theorem ff_12_50 : FLf "LastWordHillModel" 12 50 (.array .int) := ⟨_, _, _, _, rfl, nY12, nN12, by decide, by decide, by decide⟩
theorem dM_init_967 : decode cM_init 967 = .ok (.aload_n 0, 1) := by decide +kernel
theorem dM_init_968 : decode cM_init 968 = .ok (.bipush 8, 2) := by decide +kernel
theorem dM_init_970 : decode cM_init 970 = .ok (.newarray .int, 2) := by decide +kernel
theorem dM_init_972 : decode cM_init 972 = .ok (.putfield 98, 3) := by decide +kernel
theorem ff_12_51 : FLf "LastWordHillModel" 12 51 (.array .int) := ⟨_, _, _, _, rfl, nY12, nN12, by decide, by decide, by decide⟩
theorem dM_init_975 : decode cM_init 975 = .ok (.aload_n 0, 1) := by decide +kernel
theorem dM_init_976 : decode cM_init 976 = .ok (.bipush 40, 2) := by decide +kernel
theorem dM_init_978 : decode cM_init 978 = .ok (.newarray .int, 2) := by decide +kernel
theorem dM_init_980 : decode cM_init 980 = .ok (.putfield 101, 3) := by decide +kernel
theorem ff_12_52 : FLf "LastWordHillModel" 12 52 (.array .int) := ⟨_, _, _, _, rfl, nY12, nN12, by decide, by decide, by decide⟩
theorem dM_init_983 : decode cM_init 983 = .ok (.aload_n 0, 1) := by decide +kernel
theorem dM_init_984 : decode cM_init 984 = .ok (.bipush 6, 2) := by decide +kernel
theorem dM_init_986 : decode cM_init 986 = .ok (.newarray .int, 2) := by decide +kernel
theorem dM_init_988 : decode cM_init 988 = .ok (.putfield 104, 3) := by decide +kernel
theorem ff_12_54 : FLf "LastWordHillModel" 12 54 (.array .int) := ⟨_, _, _, _, rfl, nY12, nN12, by decide, by decide, by decide⟩
theorem dM_init_991 : decode cM_init 991 = .ok (.aload_n 0, 1) := by decide +kernel
theorem dM_init_992 : decode cM_init 992 = .ok (.bipush 6, 2) := by decide +kernel
theorem dM_init_994 : decode cM_init 994 = .ok (.newarray .int, 2) := by decide +kernel
theorem dM_init_996 : decode cM_init 996 = .ok (.putfield 107, 3) := by decide +kernel
theorem ff_12_55 : FLf "LastWordHillModel" 12 55 (.array .int) := ⟨_, _, _, _, rfl, nY12, nN12, by decide, by decide, by decide⟩
theorem dM_init_999 : decode cM_init 999 = .ok (.aload_n 0, 1) := by decide +kernel
theorem dM_init_1000 : decode cM_init 1000 = .ok (.bipush 6, 2) := by decide +kernel
theorem dM_init_1002 : decode cM_init 1002 = .ok (.newarray .int, 2) := by decide +kernel
theorem dM_init_1004 : decode cM_init 1004 = .ok (.putfield 110, 3) := by decide +kernel
theorem ff_12_56 : FLf "LastWordHillModel" 12 56 (.array .int) := ⟨_, _, _, _, rfl, nY12, nN12, by decide, by decide, by decide⟩
theorem dM_init_1007 : decode cM_init 1007 = .ok (.aload_n 0, 1) := by decide +kernel
theorem dM_init_1008 : decode cM_init 1008 = .ok (.bipush 6, 2) := by decide +kernel
theorem dM_init_1010 : decode cM_init 1010 = .ok (.newarray .int, 2) := by decide +kernel
theorem dM_init_1012 : decode cM_init 1012 = .ok (.putfield 113, 3) := by decide +kernel
theorem ff_12_57 : FLf "LastWordHillModel" 12 57 (.array .int) := ⟨_, _, _, _, rfl, nY12, nN12, by decide, by decide, by decide⟩
theorem dM_init_1015 : decode cM_init 1015 = .ok (.aload_n 0, 1) := by decide +kernel
theorem dM_init_1016 : decode cM_init 1016 = .ok (.iconst 0, 1) := by decide +kernel
theorem dM_init_1017 : decode cM_init 1017 = .ok (.putfield 116, 3) := by decide +kernel
theorem dM_init_1020 : decode cM_init 1020 = .ok (.aload_n 0, 1) := by decide +kernel
theorem dM_init_1021 : decode cM_init 1021 = .ok (.sipush 1000, 3) := by decide +kernel
theorem dM_init_1024 : decode cM_init 1024 = .ok (.newarray .int, 2) := by decide +kernel
theorem dM_init_1026 : decode cM_init 1026 = .ok (.putfield 119, 3) := by decide +kernel
theorem ff_12_61 : FLf "LastWordHillModel" 12 61 (.array .int) := ⟨_, _, _, _, rfl, nY12, nN12, by decide, by decide, by decide⟩
theorem dM_init_1029 : decode cM_init 1029 = .ok (.aload_n 0, 1) := by decide +kernel
theorem dM_init_1030 : decode cM_init 1030 = .ok (.bipush 12, 2) := by decide +kernel
theorem dM_init_1032 : decode cM_init 1032 = .ok (.newarray .int, 2) := by decide +kernel
theorem dM_init_1034 : decode cM_init 1034 = .ok (.putfield 122, 3) := by decide +kernel
theorem ff_12_63 : FLf "LastWordHillModel" 12 63 (.array .int) := ⟨_, _, _, _, rfl, nY12, nN12, by decide, by decide, by decide⟩
theorem dM_init_1037 : decode cM_init 1037 = .ok (.aload_n 0, 1) := by decide +kernel
theorem dM_init_1038 : decode cM_init 1038 = .ok (.iconst 4, 1) := by decide +kernel
theorem dM_init_1039 : decode cM_init 1039 = .ok (.newarray .int, 2) := by decide +kernel
theorem dM_init_1041 : decode cM_init 1041 = .ok (.putfield 125, 3) := by decide +kernel
theorem ff_12_64 : FLf "LastWordHillModel" 12 64 (.array .int) := ⟨_, _, _, _, rfl, nY12, nN12, by decide, by decide, by decide⟩
theorem dM_init_1044 : decode cM_init 1044 = .ok (.aload_n 0, 1) := by decide +kernel
theorem dM_init_1045 : decode cM_init 1045 = .ok (.bipush 100, 2) := by decide +kernel
theorem dM_init_1047 : decode cM_init 1047 = .ok (.newarray .int, 2) := by decide +kernel
theorem dM_init_1049 : decode cM_init 1049 = .ok (.putfield 128, 3) := by decide +kernel
theorem ff_12_65 : FLf "LastWordHillModel" 12 65 (.array .int) := ⟨_, _, _, _, rfl, nY12, nN12, by decide, by decide, by decide⟩
theorem dM_init_1052 : decode cM_init 1052 = .ok (.aload_n 0, 1) := by decide +kernel
theorem dM_init_1053 : decode cM_init 1053 = .ok (.sipush 2300, 3) := by decide +kernel
theorem dM_init_1056 : decode cM_init 1056 = .ok (.newarray .int, 2) := by decide +kernel
theorem dM_init_1058 : decode cM_init 1058 = .ok (.putfield 131, 3) := by decide +kernel
theorem ff_12_69 : FLf "LastWordHillModel" 12 69 (.array .int) := ⟨_, _, _, _, rfl, nY12, nN12, by decide, by decide, by decide⟩
theorem dM_init_1061 : decode cM_init 1061 = .ok (.return_, 1) := by decide +kernel
set_option maxRecDepth 100000 in
def fSc_init (o0 : Nat) (n : Nat) (r0 : Rh) (s0 : Sg) : Option Gt := gk o0 5 (gk n 13 (gl n 80 (glt o0 (n + 1) (bnd (rp r0 o0 0 n) fun r3 => glt o0 (n + 1) (bnd (pt s0 o0 2 (-1)) fun s4 => glt o0 (n + 1) (bnd (pt s4 o0 3 (-1)) fun s5 => glt o0 (n + 1) (bnd (pt s5 o0 4 (-1)) fun s6 => glt o0 (n + 1) (bnd (pt s6 o0 5 (-1)) fun s7 => glt o0 (n + 1) (bnd (pt s7 o0 8 40) fun s8 => some ((n + 1), r3, s8))))))))))
set_option maxHeartbeats 4000000 in
set_option maxRecDepth 100000 in
theorem okSc_init (o0 : Nat) (n : Nat) (r0 : Rh) (s0 : Sg) : ∀ (l : Launch) (w : WC), OkC l w ySc_init cSc_init 1 1 1 80 [.ref (w.ad o0)] (n, r0, s0) (fSc_init o0 n r0 s0) := by
  refine okc_in (av := fun w => [.ref (w.ad o0)]) "LastWordHill$Scene" rfl (by decide +kernel) rfl (fun _ => rfl) (fun _ => Nat.le_of_ble_eq_true rfl) ?_
  intro C z X hR0 hin E
  show GP C (fun q => q = z) 0 [some (.ref (C.w.ad o0))] [] 0 0 n r0 s0 (fSc_init o0 n r0 s0)
  unfold fSc_init
  refine gp_k (fun h0 => ?_)
  refine c_aload_n X dSc_init_0 rfl ?_
  refine c_obj X mo_Sc_3 hz_obj (by decide) (Nat.le_of_ble_eq_true rfl) dSc_init_1 ?_
  refine c_aload_n X dSc_init_4 rfl ?_
  refine c_bipush X 80 dSc_init_5 (by decide) ?_
  refine c_newa X (N := 80) (by decide) (by decide) (rm_of hR0 (by decide) (by decide)) (by decide) hz_arI dSc_init_7 (fun hk1 hl2 => ?_)
  refine c_putRF X hin fl_Sc_9 fb_5_0 ff_5_0 ⟨rfl, rfl, fun _ => ⟨rfl, rfl⟩⟩ h0 dSc_init_9 (fun r3 => ?_)
  refine c_aload_n X dSc_init_12 rfl ?_
  refine c_iconst X (-1) dSc_init_13 (by decide) ?_
  refine c_putI X fl_Sc_15 fb_5_2 fp_5_2 h0 dSc_init_14 (fun s4 => ?_)
  refine c_aload_n X dSc_init_17 rfl ?_
  refine c_iconst X (-1) dSc_init_18 (by decide) ?_
  refine c_putI X fl_Sc_19 fb_5_3 fp_5_3 h0 dSc_init_19 (fun s5 => ?_)
  refine c_aload_n X dSc_init_22 rfl ?_
  refine c_iconst X (-1) dSc_init_23 (by decide) ?_
  refine c_putI X fl_Sc_22 fb_5_4 fp_5_4 h0 dSc_init_24 (fun s6 => ?_)
  refine c_aload_n X dSc_init_27 rfl ?_
  refine c_iconst X (-1) dSc_init_28 (by decide) ?_
  refine c_putI X fl_Sc_25 fb_5_5 fp_5_5 h0 dSc_init_29 (fun s7 => ?_)
  refine c_aload_n X dSc_init_32 rfl ?_
  refine c_bipush X 40 dSc_init_33 (by decide) ?_
  refine c_putI X fl_Sc_28 fb_5_8 fp_5_8 h0 dSc_init_35 (fun s8 => ?_)
  exact c_ret X E (by decide) (by decide) dSc_init_38
set_option maxRecDepth 100000 in
def fPa_init (o0 : Nat) (n : Nat) (r0 : Rh) (s0 : Sg) : Option Gt := gk o0 3 (gk n 14 (gl n 6 (glt o0 (n + 1) (bnd (rp r0 o0 0 n) fun r3 => glt o0 (n + 1) (grf (r3 o0 0) n (gk (n + 1) 5 (bg (fSc_init (n + 1)  ((n + 1) + 1) r3 s0) (((n + 1) + 1) + 1) (fun _ r6 s5 => glt n (((n + 1) + 1) + 1) (glt (n + 1) (((n + 1) + 1) + 1) (bnd (rp r6 n (ix 0) (n + 1)) fun r7 => glt o0 (((n + 1) + 1) + 1) (grf (r7 o0 0) n (gk (((n + 1) + 1) + 1) 5 (bg (fSc_init (((n + 1) + 1) + 1)  ((((n + 1) + 1) + 1) + 1) r7 s5) (((((n + 1) + 1) + 1) + 1) + 1) (fun _ r10 s9 => glt n (((((n + 1) + 1) + 1) + 1) + 1) (glt (((n + 1) + 1) + 1) (((((n + 1) + 1) + 1) + 1) + 1) (bnd (rp r10 n (ix 1) (((n + 1) + 1) + 1)) fun r11 => glt o0 (((((n + 1) + 1) + 1) + 1) + 1) (grf (r11 o0 0) n (gk (((((n + 1) + 1) + 1) + 1) + 1) 5 (bg (fSc_init (((((n + 1) + 1) + 1) + 1) + 1)  ((((((n + 1) + 1) + 1) + 1) + 1) + 1) r11 s9) (((((((n + 1) + 1) + 1) + 1) + 1) + 1) + 1) (fun _ r14 s13 => glt n (((((((n + 1) + 1) + 1) + 1) + 1) + 1) + 1) (glt (((((n + 1) + 1) + 1) + 1) + 1) (((((((n + 1) + 1) + 1) + 1) + 1) + 1) + 1) (bnd (rp r14 n (ix 2) (((((n + 1) + 1) + 1) + 1) + 1)) fun r15 => glt o0 (((((((n + 1) + 1) + 1) + 1) + 1) + 1) + 1) (grf (r15 o0 0) n (gk (((((((n + 1) + 1) + 1) + 1) + 1) + 1) + 1) 5 (bg (fSc_init (((((((n + 1) + 1) + 1) + 1) + 1) + 1) + 1)  ((((((((n + 1) + 1) + 1) + 1) + 1) + 1) + 1) + 1) r15 s13) (((((((((n + 1) + 1) + 1) + 1) + 1) + 1) + 1) + 1) + 1) (fun _ r18 s17 => glt n (((((((((n + 1) + 1) + 1) + 1) + 1) + 1) + 1) + 1) + 1) (glt (((((((n + 1) + 1) + 1) + 1) + 1) + 1) + 1) (((((((((n + 1) + 1) + 1) + 1) + 1) + 1) + 1) + 1) + 1) (bnd (rp r18 n (ix 3) (((((((n + 1) + 1) + 1) + 1) + 1) + 1) + 1)) fun r19 => glt o0 (((((((((n + 1) + 1) + 1) + 1) + 1) + 1) + 1) + 1) + 1) (grf (r19 o0 0) n (gk (((((((((n + 1) + 1) + 1) + 1) + 1) + 1) + 1) + 1) + 1) 5 (bg (fSc_init (((((((((n + 1) + 1) + 1) + 1) + 1) + 1) + 1) + 1) + 1)  ((((((((((n + 1) + 1) + 1) + 1) + 1) + 1) + 1) + 1) + 1) + 1) r19 s17) (((((((((((n + 1) + 1) + 1) + 1) + 1) + 1) + 1) + 1) + 1) + 1) + 1) (fun _ r22 s21 => glt n (((((((((((n + 1) + 1) + 1) + 1) + 1) + 1) + 1) + 1) + 1) + 1) + 1) (glt (((((((((n + 1) + 1) + 1) + 1) + 1) + 1) + 1) + 1) + 1) (((((((((((n + 1) + 1) + 1) + 1) + 1) + 1) + 1) + 1) + 1) + 1) + 1) (bnd (rp r22 n (ix 4) (((((((((n + 1) + 1) + 1) + 1) + 1) + 1) + 1) + 1) + 1)) fun r23 => glt o0 (((((((((((n + 1) + 1) + 1) + 1) + 1) + 1) + 1) + 1) + 1) + 1) + 1) (grf (r23 o0 0) n (gk (((((((((((n + 1) + 1) + 1) + 1) + 1) + 1) + 1) + 1) + 1) + 1) + 1) 5 (bg (fSc_init (((((((((((n + 1) + 1) + 1) + 1) + 1) + 1) + 1) + 1) + 1) + 1) + 1)  ((((((((((((n + 1) + 1) + 1) + 1) + 1) + 1) + 1) + 1) + 1) + 1) + 1) + 1) r23 s21) (((((((((((((n + 1) + 1) + 1) + 1) + 1) + 1) + 1) + 1) + 1) + 1) + 1) + 1) + 1) (fun _ r26 s25 => glt n (((((((((((((n + 1) + 1) + 1) + 1) + 1) + 1) + 1) + 1) + 1) + 1) + 1) + 1) + 1) (glt (((((((((((n + 1) + 1) + 1) + 1) + 1) + 1) + 1) + 1) + 1) + 1) + 1) (((((((((((((n + 1) + 1) + 1) + 1) + 1) + 1) + 1) + 1) + 1) + 1) + 1) + 1) + 1) (bnd (rp r26 n (ix 5) (((((((((((n + 1) + 1) + 1) + 1) + 1) + 1) + 1) + 1) + 1) + 1) + 1)) fun r27 => some ((((((((((((((n + 1) + 1) + 1) + 1) + 1) + 1) + 1) + 1) + 1) + 1) + 1) + 1) + 1), r27, s25)))))))))))))))))))))))))))))))))))))))))
set_option maxHeartbeats 4000000 in
set_option maxRecDepth 100000 in
theorem okPa_init (o0 : Nat) (n : Nat) (r0 : Rh) (s0 : Sg) : ∀ (l : Launch) (w : WC), OkC l w yPa_init cPa_init 2 2 13 564 [.ref (w.ad o0)] (n, r0, s0) (fPa_init o0 n r0 s0) := by
  refine okc_in (av := fun w => [.ref (w.ad o0)]) "LastWordHill$Past" rfl (by decide +kernel) rfl (fun _ => rfl) (fun _ => Nat.le_of_ble_eq_true rfl) ?_
  intro C z X hR0 hin E
  show GP C (fun q => q = z) 0 [some (.ref (C.w.ad o0)), none] [] 0 0 n r0 s0 (fPa_init o0 n r0 s0)
  unfold fPa_init
  refine gp_k (fun h0 => ?_)
  refine c_aload_n X dPa_init_0 rfl ?_
  refine c_obj X mo_Pa_3 hz_obj (by decide) (Nat.le_of_ble_eq_true rfl) dPa_init_1 ?_
  refine c_aload_n X dPa_init_4 rfl ?_
  refine c_bipush X 6 dPa_init_5 (by decide) ?_
  refine c_anew X (N := 6) (by decide) (by decide) (rm_of hR0 (by decide) (by decide)) (by decide) cl_Pa_9 dPa_init_7 (fun hk1 hl2 => ?_)
  refine c_putRF X hin fl_Pa_11 fb_3_0 ff_3_0 ⟨rfl, rfl, fun _ => ⟨rfl, rfl⟩⟩ h0 dPa_init_10 (fun r3 => ?_)
  refine c_iconst X 0 dPa_init_13 (by decide) ?_
  refine c_istore_n X [some (.ref (C.w.ad o0)), some (.int 0)] dPa_init_14 (by decide) (Nat.le_of_ble_eq_true rfl) rfl ?_
  refine c_iload_n X dPa_init_15 rfl ?_
  refine c_bipush X 6 dPa_init_16 (by decide) ?_
  refine c_geF X 40 dPa_init_18 (by decide) (by decide) ?_
  refine c_aload_n X dPa_init_21 rfl ?_
  refine c_getR X fl_Pa_11 fb_3_0 h0 dPa_init_22 ?_
  refine c_iload_n X dPa_init_25 rfl ?_
  refine c_new X (N := 13) nw_Pa_9 (by decide) (rm_of hR0 (by decide) (by decide)) dPa_init_26 (fun hk4 => ?_)
  refine c_dup X dPa_init_29 rfl ?_
  refine c_nest X (as := []) (rest := [.ref (C.w.ad (n + 1)), .int 0, .ref (C.w.ad n)]) mm_Sc_init mi_Sc_init rfl ml_Pa_17 (okSc_init (n + 1)  ((n + 1) + 1) r3 s0 C.l C.w) rfl (by decide) rfl (Nat.le_of_ble_eq_true rfl) (rm_of hR0 (by decide) (by decide)) dPa_init_30 (fun r6 s5 => ?_)
  refine c_aast X hk1 hl2 hk4 (by decide) dPa_init_33 (fun r7 => ?_)
  refine c_iinc X 1 [some (.ref (C.w.ad o0)), some (.int 1)] dPa_init_34 rfl (by decide) (by decide) rfl ?_
  refine c_goto X 15 dPa_init_37 (by decide) ?_
  refine c_iload_n X dPa_init_15 rfl ?_
  refine c_bipush X 6 dPa_init_16 (by decide) ?_
  refine c_geF X 40 dPa_init_18 (by decide) (by decide) ?_
  refine c_aload_n X dPa_init_21 rfl ?_
  refine c_getR X fl_Pa_11 fb_3_0 h0 dPa_init_22 ?_
  refine c_iload_n X dPa_init_25 rfl ?_
  refine c_new X (N := 13) nw_Pa_9 (by decide) (rm_of hR0 (by decide) (by decide)) dPa_init_26 (fun hk8 => ?_)
  refine c_dup X dPa_init_29 rfl ?_
  refine c_nest X (as := []) (rest := [.ref (C.w.ad (((n + 1) + 1) + 1)), .int 1, .ref (C.w.ad n)]) mm_Sc_init mi_Sc_init rfl ml_Pa_17 (okSc_init (((n + 1) + 1) + 1)  ((((n + 1) + 1) + 1) + 1) r7 s5 C.l C.w) rfl (by decide) rfl (Nat.le_of_ble_eq_true rfl) (rm_of hR0 (by decide) (by decide)) dPa_init_30 (fun r10 s9 => ?_)
  refine c_aast X hk1 hl2 hk8 (by decide) dPa_init_33 (fun r11 => ?_)
  refine c_iinc X 2 [some (.ref (C.w.ad o0)), some (.int 2)] dPa_init_34 rfl (by decide) (by decide) rfl ?_
  refine c_goto X 15 dPa_init_37 (by decide) ?_
  refine c_iload_n X dPa_init_15 rfl ?_
  refine c_bipush X 6 dPa_init_16 (by decide) ?_
  refine c_geF X 40 dPa_init_18 (by decide) (by decide) ?_
  refine c_aload_n X dPa_init_21 rfl ?_
  refine c_getR X fl_Pa_11 fb_3_0 h0 dPa_init_22 ?_
  refine c_iload_n X dPa_init_25 rfl ?_
  refine c_new X (N := 13) nw_Pa_9 (by decide) (rm_of hR0 (by decide) (by decide)) dPa_init_26 (fun hk12 => ?_)
  refine c_dup X dPa_init_29 rfl ?_
  refine c_nest X (as := []) (rest := [.ref (C.w.ad (((((n + 1) + 1) + 1) + 1) + 1)), .int 2, .ref (C.w.ad n)]) mm_Sc_init mi_Sc_init rfl ml_Pa_17 (okSc_init (((((n + 1) + 1) + 1) + 1) + 1)  ((((((n + 1) + 1) + 1) + 1) + 1) + 1) r11 s9 C.l C.w) rfl (by decide) rfl (Nat.le_of_ble_eq_true rfl) (rm_of hR0 (by decide) (by decide)) dPa_init_30 (fun r14 s13 => ?_)
  refine c_aast X hk1 hl2 hk12 (by decide) dPa_init_33 (fun r15 => ?_)
  refine c_iinc X 3 [some (.ref (C.w.ad o0)), some (.int 3)] dPa_init_34 rfl (by decide) (by decide) rfl ?_
  refine c_goto X 15 dPa_init_37 (by decide) ?_
  refine c_iload_n X dPa_init_15 rfl ?_
  refine c_bipush X 6 dPa_init_16 (by decide) ?_
  refine c_geF X 40 dPa_init_18 (by decide) (by decide) ?_
  refine c_aload_n X dPa_init_21 rfl ?_
  refine c_getR X fl_Pa_11 fb_3_0 h0 dPa_init_22 ?_
  refine c_iload_n X dPa_init_25 rfl ?_
  refine c_new X (N := 13) nw_Pa_9 (by decide) (rm_of hR0 (by decide) (by decide)) dPa_init_26 (fun hk16 => ?_)
  refine c_dup X dPa_init_29 rfl ?_
  refine c_nest X (as := []) (rest := [.ref (C.w.ad (((((((n + 1) + 1) + 1) + 1) + 1) + 1) + 1)), .int 3, .ref (C.w.ad n)]) mm_Sc_init mi_Sc_init rfl ml_Pa_17 (okSc_init (((((((n + 1) + 1) + 1) + 1) + 1) + 1) + 1)  ((((((((n + 1) + 1) + 1) + 1) + 1) + 1) + 1) + 1) r15 s13 C.l C.w) rfl (by decide) rfl (Nat.le_of_ble_eq_true rfl) (rm_of hR0 (by decide) (by decide)) dPa_init_30 (fun r18 s17 => ?_)
  refine c_aast X hk1 hl2 hk16 (by decide) dPa_init_33 (fun r19 => ?_)
  refine c_iinc X 4 [some (.ref (C.w.ad o0)), some (.int 4)] dPa_init_34 rfl (by decide) (by decide) rfl ?_
  refine c_goto X 15 dPa_init_37 (by decide) ?_
  refine c_iload_n X dPa_init_15 rfl ?_
  refine c_bipush X 6 dPa_init_16 (by decide) ?_
  refine c_geF X 40 dPa_init_18 (by decide) (by decide) ?_
  refine c_aload_n X dPa_init_21 rfl ?_
  refine c_getR X fl_Pa_11 fb_3_0 h0 dPa_init_22 ?_
  refine c_iload_n X dPa_init_25 rfl ?_
  refine c_new X (N := 13) nw_Pa_9 (by decide) (rm_of hR0 (by decide) (by decide)) dPa_init_26 (fun hk20 => ?_)
  refine c_dup X dPa_init_29 rfl ?_
  refine c_nest X (as := []) (rest := [.ref (C.w.ad (((((((((n + 1) + 1) + 1) + 1) + 1) + 1) + 1) + 1) + 1)), .int 4, .ref (C.w.ad n)]) mm_Sc_init mi_Sc_init rfl ml_Pa_17 (okSc_init (((((((((n + 1) + 1) + 1) + 1) + 1) + 1) + 1) + 1) + 1)  ((((((((((n + 1) + 1) + 1) + 1) + 1) + 1) + 1) + 1) + 1) + 1) r19 s17 C.l C.w) rfl (by decide) rfl (Nat.le_of_ble_eq_true rfl) (rm_of hR0 (by decide) (by decide)) dPa_init_30 (fun r22 s21 => ?_)
  refine c_aast X hk1 hl2 hk20 (by decide) dPa_init_33 (fun r23 => ?_)
  refine c_iinc X 5 [some (.ref (C.w.ad o0)), some (.int 5)] dPa_init_34 rfl (by decide) (by decide) rfl ?_
  refine c_goto X 15 dPa_init_37 (by decide) ?_
  refine c_iload_n X dPa_init_15 rfl ?_
  refine c_bipush X 6 dPa_init_16 (by decide) ?_
  refine c_geF X 40 dPa_init_18 (by decide) (by decide) ?_
  refine c_aload_n X dPa_init_21 rfl ?_
  refine c_getR X fl_Pa_11 fb_3_0 h0 dPa_init_22 ?_
  refine c_iload_n X dPa_init_25 rfl ?_
  refine c_new X (N := 13) nw_Pa_9 (by decide) (rm_of hR0 (by decide) (by decide)) dPa_init_26 (fun hk24 => ?_)
  refine c_dup X dPa_init_29 rfl ?_
  refine c_nest X (as := []) (rest := [.ref (C.w.ad (((((((((((n + 1) + 1) + 1) + 1) + 1) + 1) + 1) + 1) + 1) + 1) + 1)), .int 5, .ref (C.w.ad n)]) mm_Sc_init mi_Sc_init rfl ml_Pa_17 (okSc_init (((((((((((n + 1) + 1) + 1) + 1) + 1) + 1) + 1) + 1) + 1) + 1) + 1)  ((((((((((((n + 1) + 1) + 1) + 1) + 1) + 1) + 1) + 1) + 1) + 1) + 1) + 1) r23 s21 C.l C.w) rfl (by decide) rfl (Nat.le_of_ble_eq_true rfl) (rm_of hR0 (by decide) (by decide)) dPa_init_30 (fun r26 s25 => ?_)
  refine c_aast X hk1 hl2 hk24 (by decide) dPa_init_33 (fun r27 => ?_)
  refine c_iinc X 6 [some (.ref (C.w.ad o0)), some (.int 6)] dPa_init_34 rfl (by decide) (by decide) rfl ?_
  refine c_goto X 15 dPa_init_37 (by decide) ?_
  refine c_iload_n X dPa_init_15 rfl ?_
  refine c_bipush X 6 dPa_init_16 (by decide) ?_
  refine c_geT X 40 dPa_init_18 (by decide) (by decide) ?_
  exact c_ret X E (by decide) (by decide) dPa_init_40
set_option maxRecDepth 100000 in
def fTa_init_4_16 (o0 : Nat) (n : Nat) (r0 : Rh) (s0 : Sg) : Option Gt := gk o0 7 (glt o0 n (bnd (pt s0 o0 0 4) fun s1 => glt o0 n (bnd (pt s1 o0 1 16) fun s2 => glt o0 n (gv (s2 o0 0) 4 (glt o0 n (gv (s2 o0 1) 16 (gk n 13 (gl n 64 (glt o0 (n + 1) (bnd (rp r0 o0 2 n) fun r5 => some ((n + 1), r5, s2)))))))))))
set_option maxHeartbeats 4000000 in
set_option maxRecDepth 100000 in
theorem okTa_init_4_16 (o0 : Nat) (n : Nat) (r0 : Rh) (s0 : Sg) : ∀ (l : Launch) (w : WC), OkC l w yTa_init cTa_init 3 1 1 64 [.ref (w.ad o0), .int 4, .int 16] (n, r0, s0) (fTa_init_4_16 o0 n r0 s0) := by
  refine okc_in (av := fun w => [.ref (w.ad o0), .int 4, .int 16]) "LastWordHill$Table" rfl (by decide +kernel) rfl (fun _ => rfl) (fun _ => Nat.le_of_ble_eq_true rfl) ?_
  intro C z X hR0 hin E
  show GP C (fun q => q = z) 0 [some (.ref (C.w.ad o0)), some (.int 4), some (.int 16)] [] 0 0 n r0 s0 (fTa_init_4_16 o0 n r0 s0)
  unfold fTa_init_4_16
  refine gp_k (fun h0 => ?_)
  refine c_aload_n X dTa_init_0 rfl ?_
  refine c_obj X mo_Ta_3 hz_obj (by decide) (Nat.le_of_ble_eq_true rfl) dTa_init_1 ?_
  refine c_aload_n X dTa_init_4 rfl ?_
  refine c_iload_n X dTa_init_5 rfl ?_
  refine c_iconst X 0 dTa_init_6 (by decide) ?_
  refine c_maxv X 4 (by decide) mx_Ta_9 hz_max (by decide) (Nat.le_of_ble_eq_true rfl) (rm_of hR0 (by decide) (by decide)) dTa_init_7 ?_
  refine c_putIF X hin fl_Ta_15 fb_7_0 ff_7_0 h0 dTa_init_10 (fun s1 => ?_)
  refine c_aload_n X dTa_init_13 rfl ?_
  refine c_iload_n X dTa_init_14 rfl ?_
  refine c_iconst X 0 dTa_init_15 (by decide) ?_
  refine c_maxv X 16 (by decide) mx_Ta_9 hz_max (by decide) (Nat.le_of_ble_eq_true rfl) (rm_of hR0 (by decide) (by decide)) dTa_init_16 ?_
  refine c_putIF X hin fl_Ta_21 fb_7_1 ff_7_1 h0 dTa_init_19 (fun s2 => ?_)
  refine c_aload_n X dTa_init_22 rfl ?_
  refine c_aload_n X dTa_init_23 rfl ?_
  refine c_getIv X fl_Ta_15 fb_7_0 h0 dTa_init_24 ?_
  refine c_aload_n X dTa_init_27 rfl ?_
  refine c_getIv X fl_Ta_21 fb_7_1 h0 dTa_init_28 ?_
  refine c_imulv X 64 (by decide) dTa_init_31 ?_
  refine c_newa X (N := 64) (by decide) (by decide) (rm_of hR0 (by decide) (by decide)) (by decide) hz_arI dTa_init_32 (fun hk3 hl4 => ?_)
  refine c_putRF X hin fl_Ta_24 fb_7_2 ff_7_2 ⟨rfl, rfl, fun _ => ⟨rfl, rfl⟩⟩ h0 dTa_init_34 (fun r5 => ?_)
  exact c_ret X E (by decide) (by decide) dTa_init_37
set_option maxRecDepth 100000 in
def fLa_init (o0 : Nat) (n : Nat) (r0 : Rh) (s0 : Sg) : Option Gt := gk o0 1 (gk n 7 (bg (fTa_init_4_16 n  (n + 1) r0 s0) ((n + 1) + 1) (fun _ r3 s2 => glt o0 ((n + 1) + 1) (bnd (rp r3 o0 0 n) fun r4 => gk ((n + 1) + 1) 13 (gl ((n + 1) + 1) 400 (glt o0 (((n + 1) + 1) + 1) (bnd (rp r4 o0 1 ((n + 1) + 1)) fun r7 => gk (((n + 1) + 1) + 1) 13 (gl (((n + 1) + 1) + 1) 64 (glt o0 ((((n + 1) + 1) + 1) + 1) (bnd (rp r7 o0 2 (((n + 1) + 1) + 1)) fun r10 => some (((((n + 1) + 1) + 1) + 1), r10, s2)))))))))))
set_option maxHeartbeats 4000000 in
set_option maxRecDepth 100000 in
theorem okLa_init (o0 : Nat) (n : Nat) (r0 : Rh) (s0 : Sg) : ∀ (l : Launch) (w : WC), OkC l w yLa_init cLa_init 1 2 4 532 [.ref (w.ad o0)] (n, r0, s0) (fLa_init o0 n r0 s0) := by
  refine okc_in (av := fun w => [.ref (w.ad o0)]) "LastWordHill$Law" rfl (by decide +kernel) rfl (fun _ => rfl) (fun _ => Nat.le_of_ble_eq_true rfl) ?_
  intro C z X hR0 hin E
  show GP C (fun q => q = z) 0 [some (.ref (C.w.ad o0))] [] 0 0 n r0 s0 (fLa_init o0 n r0 s0)
  unfold fLa_init
  refine gp_k (fun h0 => ?_)
  refine c_aload_n X dLa_init_0 rfl ?_
  refine c_obj X mo_La_3 hz_obj (by decide) (Nat.le_of_ble_eq_true rfl) dLa_init_1 ?_
  refine c_aload_n X dLa_init_4 rfl ?_
  refine c_new X (N := 4) nw_La_9 (by decide) (rm_of hR0 (by decide) (by decide)) dLa_init_5 (fun hk1 => ?_)
  refine c_dup X dLa_init_8 rfl ?_
  refine c_iconst X 4 dLa_init_9 (by decide) ?_
  refine c_bipush X 16 dLa_init_10 (by decide) ?_
  refine c_call X (as := [.int 4, .int 16]) (rest := [.ref (C.w.ad n), .ref (C.w.ad o0)]) mm_Ta_init mi_Ta_init rfl ml_La_11 (okTa_init_4_16 n  (n + 1) r0 s0 C.l C.w) rfl (by decide) rfl (Nat.le_of_ble_eq_true rfl) (rm_of hR0 (by decide) (by decide)) dLa_init_12 (fun r3 s2 => ?_)
  refine c_putRF X hin fl_La_14 fb_1_0 ff_1_0 ⟨rfl, rfl, fun _ => ⟨rfl, rfl⟩⟩ h0 dLa_init_15 (fun r4 => ?_)
  refine c_aload_n X dLa_init_18 rfl ?_
  refine c_sipush X 400 dLa_init_19 (by decide) ?_
  refine c_newa X (N := 400) (by decide) (by decide) (rm_of hR0 (by decide) (by decide)) (by decide) hz_arI dLa_init_22 (fun hk5 hl6 => ?_)
  refine c_putRF X hin fl_La_20 fb_1_1 ff_1_1 ⟨rfl, rfl, fun _ => ⟨rfl, rfl⟩⟩ h0 dLa_init_24 (fun r7 => ?_)
  refine c_aload_n X dLa_init_27 rfl ?_
  refine c_bipush X 64 dLa_init_28 (by decide) ?_
  refine c_newa X (N := 64) (by decide) (by decide) (rm_of hR0 (by decide) (by decide)) (by decide) hz_arI dLa_init_30 (fun hk8 hl9 => ?_)
  refine c_putRF X hin fl_La_24 fb_1_2 ff_1_2 ⟨rfl, rfl, fun _ => ⟨rfl, rfl⟩⟩ h0 dLa_init_32 (fun r10 => ?_)
  exact c_ret X E (by decide) (by decide) dLa_init_35
set_option maxRecDepth 100000 in
def fTa_init_2_16 (o0 : Nat) (n : Nat) (r0 : Rh) (s0 : Sg) : Option Gt := gk o0 7 (glt o0 n (bnd (pt s0 o0 0 2) fun s1 => glt o0 n (bnd (pt s1 o0 1 16) fun s2 => glt o0 n (gv (s2 o0 0) 2 (glt o0 n (gv (s2 o0 1) 16 (gk n 13 (gl n 32 (glt o0 (n + 1) (bnd (rp r0 o0 2 n) fun r5 => some ((n + 1), r5, s2)))))))))))
set_option maxHeartbeats 4000000 in
set_option maxRecDepth 100000 in
theorem okTa_init_2_16 (o0 : Nat) (n : Nat) (r0 : Rh) (s0 : Sg) : ∀ (l : Launch) (w : WC), OkC l w yTa_init cTa_init 3 1 1 32 [.ref (w.ad o0), .int 2, .int 16] (n, r0, s0) (fTa_init_2_16 o0 n r0 s0) := by
  refine okc_in (av := fun w => [.ref (w.ad o0), .int 2, .int 16]) "LastWordHill$Table" rfl (by decide +kernel) rfl (fun _ => rfl) (fun _ => Nat.le_of_ble_eq_true rfl) ?_
  intro C z X hR0 hin E
  show GP C (fun q => q = z) 0 [some (.ref (C.w.ad o0)), some (.int 2), some (.int 16)] [] 0 0 n r0 s0 (fTa_init_2_16 o0 n r0 s0)
  unfold fTa_init_2_16
  refine gp_k (fun h0 => ?_)
  refine c_aload_n X dTa_init_0 rfl ?_
  refine c_obj X mo_Ta_3 hz_obj (by decide) (Nat.le_of_ble_eq_true rfl) dTa_init_1 ?_
  refine c_aload_n X dTa_init_4 rfl ?_
  refine c_iload_n X dTa_init_5 rfl ?_
  refine c_iconst X 0 dTa_init_6 (by decide) ?_
  refine c_maxv X 2 (by decide) mx_Ta_9 hz_max (by decide) (Nat.le_of_ble_eq_true rfl) (rm_of hR0 (by decide) (by decide)) dTa_init_7 ?_
  refine c_putIF X hin fl_Ta_15 fb_7_0 ff_7_0 h0 dTa_init_10 (fun s1 => ?_)
  refine c_aload_n X dTa_init_13 rfl ?_
  refine c_iload_n X dTa_init_14 rfl ?_
  refine c_iconst X 0 dTa_init_15 (by decide) ?_
  refine c_maxv X 16 (by decide) mx_Ta_9 hz_max (by decide) (Nat.le_of_ble_eq_true rfl) (rm_of hR0 (by decide) (by decide)) dTa_init_16 ?_
  refine c_putIF X hin fl_Ta_21 fb_7_1 ff_7_1 h0 dTa_init_19 (fun s2 => ?_)
  refine c_aload_n X dTa_init_22 rfl ?_
  refine c_aload_n X dTa_init_23 rfl ?_
  refine c_getIv X fl_Ta_15 fb_7_0 h0 dTa_init_24 ?_
  refine c_aload_n X dTa_init_27 rfl ?_
  refine c_getIv X fl_Ta_21 fb_7_1 h0 dTa_init_28 ?_
  refine c_imulv X 32 (by decide) dTa_init_31 ?_
  refine c_newa X (N := 32) (by decide) (by decide) (rm_of hR0 (by decide) (by decide)) (by decide) hz_arI dTa_init_32 (fun hk3 hl4 => ?_)
  refine c_putRF X hin fl_Ta_24 fb_7_2 ff_7_2 ⟨rfl, rfl, fun _ => ⟨rfl, rfl⟩⟩ h0 dTa_init_34 (fun r5 => ?_)
  exact c_ret X E (by decide) (by decide) dTa_init_37
set_option maxRecDepth 100000 in
def fTe_init (o0 : Nat) (n : Nat) (r0 : Rh) (s0 : Sg) : Option Gt := gk o0 8 (gk n 1 (bg (fLa_init n  (n + 1) r0 s0) ((n + 1) + 4) (fun _ r3 s2 => glt o0 ((n + 1) + 4) (bnd (rp r3 o0 0 n) fun r4 => gk ((n + 1) + 4) 7 (bg (fTa_init_4_16 ((n + 1) + 4)  (((n + 1) + 4) + 1) r4 s2) ((((n + 1) + 4) + 1) + 1) (fun _ r7 s6 => glt o0 ((((n + 1) + 4) + 1) + 1) (bnd (rp r7 o0 1 ((n + 1) + 4)) fun r8 => gk ((((n + 1) + 4) + 1) + 1) 7 (bg (fTa_init_2_16 ((((n + 1) + 4) + 1) + 1)  (((((n + 1) + 4) + 1) + 1) + 1) r8 s6) ((((((n + 1) + 4) + 1) + 1) + 1) + 1) (fun _ r11 s10 => glt o0 ((((((n + 1) + 4) + 1) + 1) + 1) + 1) (bnd (rp r11 o0 2 ((((n + 1) + 4) + 1) + 1)) fun r12 => gk ((((((n + 1) + 4) + 1) + 1) + 1) + 1) 13 (gl ((((((n + 1) + 4) + 1) + 1) + 1) + 1) 20 (glt o0 (((((((n + 1) + 4) + 1) + 1) + 1) + 1) + 1) (bnd (rp r12 o0 3 ((((((n + 1) + 4) + 1) + 1) + 1) + 1)) fun r15 => some ((((((((n + 1) + 4) + 1) + 1) + 1) + 1) + 1), r15, s10))))))))))))))
set_option maxHeartbeats 4000000 in
set_option maxRecDepth 100000 in
theorem okTe_init (o0 : Nat) (n : Nat) (r0 : Rh) (s0 : Sg) : ∀ (l : Launch) (w : WC), OkC l w yTe_init cTe_init 1 3 10 660 [.ref (w.ad o0)] (n, r0, s0) (fTe_init o0 n r0 s0) := by
  refine okc_in (av := fun w => [.ref (w.ad o0)]) "LastWordHill$Texts" rfl (by decide +kernel) rfl (fun _ => rfl) (fun _ => Nat.le_of_ble_eq_true rfl) ?_
  intro C z X hR0 hin E
  show GP C (fun q => q = z) 0 [some (.ref (C.w.ad o0))] [] 0 0 n r0 s0 (fTe_init o0 n r0 s0)
  unfold fTe_init
  refine gp_k (fun h0 => ?_)
  refine c_aload_n X dTe_init_0 rfl ?_
  refine c_obj X mo_Te_3 hz_obj (by decide) (Nat.le_of_ble_eq_true rfl) dTe_init_1 ?_
  refine c_aload_n X dTe_init_4 rfl ?_
  refine c_new X (N := 4) nw_Te_9 (by decide) (rm_of hR0 (by decide) (by decide)) dTe_init_5 (fun hk1 => ?_)
  refine c_dup X dTe_init_8 rfl ?_
  refine c_nest X (as := []) (rest := [.ref (C.w.ad n), .ref (C.w.ad o0)]) mm_La_init mi_La_init rfl ml_Te_11 (okLa_init n  (n + 1) r0 s0 C.l C.w) rfl (by decide) rfl (Nat.le_of_ble_eq_true rfl) (rm_of hR0 (by decide) (by decide)) dTe_init_9 (fun r3 s2 => ?_)
  refine c_putRF X hin fl_Te_12 fb_8_0 ff_8_0 ⟨rfl, rfl, fun _ => ⟨rfl, rfl⟩⟩ h0 dTe_init_12 (fun r4 => ?_)
  refine c_aload_n X dTe_init_15 rfl ?_
  refine c_new X (N := 4) nw_Te_18 (by decide) (rm_of hR0 (by decide) (by decide)) dTe_init_16 (fun hk5 => ?_)
  refine c_dup X dTe_init_19 rfl ?_
  refine c_iconst X 4 dTe_init_20 (by decide) ?_
  refine c_bipush X 16 dTe_init_21 (by decide) ?_
  refine c_call X (as := [.int 4, .int 16]) (rest := [.ref (C.w.ad ((n + 1) + 4)), .ref (C.w.ad o0)]) mm_Ta_init mi_Ta_init rfl ml_Te_20 (okTa_init_4_16 ((n + 1) + 4)  (((n + 1) + 4) + 1) r4 s2 C.l C.w) rfl (by decide) rfl (Nat.le_of_ble_eq_true rfl) (rm_of hR0 (by decide) (by decide)) dTe_init_23 (fun r7 s6 => ?_)
  refine c_putRF X hin fl_Te_23 fb_8_1 ff_8_1 ⟨rfl, rfl, fun _ => ⟨rfl, rfl⟩⟩ h0 dTe_init_26 (fun r8 => ?_)
  refine c_aload_n X dTe_init_29 rfl ?_
  refine c_new X (N := 4) nw_Te_18 (by decide) (rm_of hR0 (by decide) (by decide)) dTe_init_30 (fun hk9 => ?_)
  refine c_dup X dTe_init_33 rfl ?_
  refine c_iconst X 2 dTe_init_34 (by decide) ?_
  refine c_bipush X 16 dTe_init_35 (by decide) ?_
  refine c_call X (as := [.int 2, .int 16]) (rest := [.ref (C.w.ad ((((n + 1) + 4) + 1) + 1)), .ref (C.w.ad o0)]) mm_Ta_init mi_Ta_init rfl ml_Te_20 (okTa_init_2_16 ((((n + 1) + 4) + 1) + 1)  (((((n + 1) + 4) + 1) + 1) + 1) r8 s6 C.l C.w) rfl (by decide) rfl (Nat.le_of_ble_eq_true rfl) (rm_of hR0 (by decide) (by decide)) dTe_init_37 (fun r11 s10 => ?_)
  refine c_putRF X hin fl_Te_27 fb_8_2 ff_8_2 ⟨rfl, rfl, fun _ => ⟨rfl, rfl⟩⟩ h0 dTe_init_40 (fun r12 => ?_)
  refine c_aload_n X dTe_init_43 rfl ?_
  refine c_bipush X 20 dTe_init_44 (by decide) ?_
  refine c_newa X (N := 20) (by decide) (by decide) (rm_of hR0 (by decide) (by decide)) (by decide) hz_arI dTe_init_46 (fun hk13 hl14 => ?_)
  refine c_putRF X hin fl_Te_30 fb_8_3 ff_8_3 ⟨rfl, rfl, fun _ => ⟨rfl, rfl⟩⟩ h0 dTe_init_48 (fun r15 => ?_)
  exact c_ret X E (by decide) (by decide) dTe_init_51
set_option maxRecDepth 100000 in
def fTo_init (o0 : Nat) (n : Nat) (r0 : Rh) (s0 : Sg) : Option Gt := gk o0 9 (gk n 13 (gl n 400 (glt o0 (n + 1) (bnd (rp r0 o0 0 n) fun r3 => gk (n + 1) 13 (gl (n + 1) 401 (glt o0 ((n + 1) + 1) (bnd (rp r3 o0 1 (n + 1)) fun r6 => gk ((n + 1) + 1) 13 (gl ((n + 1) + 1) 401 (glt o0 (((n + 1) + 1) + 1) (bnd (rp r6 o0 2 ((n + 1) + 1)) fun r9 => gk (((n + 1) + 1) + 1) 13 (gl (((n + 1) + 1) + 1) 401 (glt o0 ((((n + 1) + 1) + 1) + 1) (bnd (rp r9 o0 3 (((n + 1) + 1) + 1)) fun r12 => some (((((n + 1) + 1) + 1) + 1), r12, s0))))))))))))))
set_option maxHeartbeats 4000000 in
set_option maxRecDepth 100000 in
theorem okTo_init (o0 : Nat) (n : Nat) (r0 : Rh) (s0 : Sg) : ∀ (l : Launch) (w : WC), OkC l w yTo_init cTo_init 1 1 4 1603 [.ref (w.ad o0)] (n, r0, s0) (fTo_init o0 n r0 s0) := by
  refine okc_in (av := fun w => [.ref (w.ad o0)]) "LastWordHill$Tokens" rfl (by decide +kernel) rfl (fun _ => rfl) (fun _ => Nat.le_of_ble_eq_true rfl) ?_
  intro C z X hR0 hin E
  show GP C (fun q => q = z) 0 [some (.ref (C.w.ad o0))] [] 0 0 n r0 s0 (fTo_init o0 n r0 s0)
  unfold fTo_init
  refine gp_k (fun h0 => ?_)
  refine c_aload_n X dTo_init_0 rfl ?_
  refine c_obj X mo_To_5 hz_obj (by decide) (Nat.le_of_ble_eq_true rfl) dTo_init_1 ?_
  refine c_aload_n X dTo_init_4 rfl ?_
  refine c_sipush X 400 dTo_init_5 (by decide) ?_
  refine c_newa X (N := 400) (by decide) (by decide) (rm_of hR0 (by decide) (by decide)) (by decide) hz_arI dTo_init_8 (fun hk1 hl2 => ?_)
  refine c_putRF X hin fl_To_11 fb_9_0 ff_9_0 ⟨rfl, rfl, fun _ => ⟨rfl, rfl⟩⟩ h0 dTo_init_10 (fun r3 => ?_)
  refine c_aload_n X dTo_init_13 rfl ?_
  refine c_sipush X 401 dTo_init_14 (by decide) ?_
  refine c_newa X (N := 401) (by decide) (by decide) (rm_of hR0 (by decide) (by decide)) (by decide) hz_arI dTo_init_17 (fun hk4 hl5 => ?_)
  refine c_putRF X hin fl_To_15 fb_9_1 ff_9_1 ⟨rfl, rfl, fun _ => ⟨rfl, rfl⟩⟩ h0 dTo_init_19 (fun r6 => ?_)
  refine c_aload_n X dTo_init_22 rfl ?_
  refine c_sipush X 401 dTo_init_23 (by decide) ?_
  refine c_newa X (N := 401) (by decide) (by decide) (rm_of hR0 (by decide) (by decide)) (by decide) hz_arI dTo_init_26 (fun hk7 hl8 => ?_)
  refine c_putRF X hin fl_To_18 fb_9_2 ff_9_2 ⟨rfl, rfl, fun _ => ⟨rfl, rfl⟩⟩ h0 dTo_init_28 (fun r9 => ?_)
  refine c_aload_n X dTo_init_31 rfl ?_
  refine c_sipush X 401 dTo_init_32 (by decide) ?_
  refine c_newa X (N := 401) (by decide) (by decide) (rm_of hR0 (by decide) (by decide)) (by decide) hz_arI dTo_init_35 (fun hk10 hl11 => ?_)
  refine c_putRF X hin fl_To_21 fb_9_3 ff_9_3 ⟨rfl, rfl, fun _ => ⟨rfl, rfl⟩⟩ h0 dTo_init_37 (fun r12 => ?_)
  exact c_ret X E (by decide) (by decide) dTo_init_40
set_option maxRecDepth 100000 in
def fRe_init (o0 : Nat) (n : Nat) (r0 : Rh) (s0 : Sg) : Option Gt := gk o0 4 (gk n 9 (bg (fTo_init n  (n + 1) r0 s0) ((n + 1) + 4) (fun _ r3 s2 => glt o0 ((n + 1) + 4) (bnd (rp r3 o0 0 n) fun r4 => gk ((n + 1) + 4) 8 (bg (fTe_init ((n + 1) + 4)  (((n + 1) + 4) + 1) r4 s2) ((((n + 1) + 4) + 1) + 10) (fun _ r7 s6 => glt o0 ((((n + 1) + 4) + 1) + 10) (bnd (rp r7 o0 1 ((n + 1) + 4)) fun r8 => gk ((((n + 1) + 4) + 1) + 10) 13 (gl ((((n + 1) + 4) + 1) + 10) 27 (glt o0 (((((n + 1) + 4) + 1) + 10) + 1) (bnd (rp r8 o0 2 ((((n + 1) + 4) + 1) + 10)) fun r11 => glt o0 (((((n + 1) + 4) + 1) + 10) + 1) (bnd (pt s6 o0 4 (-1)) fun s12 => some ((((((n + 1) + 4) + 1) + 10) + 1), r11, s12))))))))))))
set_option maxHeartbeats 4000000 in
set_option maxRecDepth 100000 in
theorem okRe_init (o0 : Nat) (n : Nat) (r0 : Rh) (s0 : Sg) : ∀ (l : Launch) (w : WC), OkC l w yRe_init cRe_init 1 4 17 2305 [.ref (w.ad o0)] (n, r0, s0) (fRe_init o0 n r0 s0) := by
  refine okc_in (av := fun w => [.ref (w.ad o0)]) "LastWordHill$Reader" rfl (by decide +kernel) rfl (fun _ => rfl) (fun _ => Nat.le_of_ble_eq_true rfl) ?_
  intro C z X hR0 hin E
  show GP C (fun q => q = z) 0 [some (.ref (C.w.ad o0))] [] 0 0 n r0 s0 (fRe_init o0 n r0 s0)
  unfold fRe_init
  refine gp_k (fun h0 => ?_)
  refine c_aload_n X dRe_init_0 rfl ?_
  refine c_obj X mo_Re_5 hz_obj (by decide) (Nat.le_of_ble_eq_true rfl) dRe_init_1 ?_
  refine c_aload_n X dRe_init_4 rfl ?_
  refine c_new X (N := 10) nw_Re_11 (by decide) (rm_of hR0 (by decide) (by decide)) dRe_init_5 (fun hk1 => ?_)
  refine c_dup X dRe_init_8 rfl ?_
  refine c_nest X (as := []) (rest := [.ref (C.w.ad n), .ref (C.w.ad o0)]) mm_To_init mi_To_init rfl ml_Re_13 (okTo_init n  (n + 1) r0 s0 C.l C.w) rfl (by decide) rfl (Nat.le_of_ble_eq_true rfl) (rm_of hR0 (by decide) (by decide)) dRe_init_9 (fun r3 s2 => ?_)
  refine c_putRF X hin fl_Re_14 fb_4_0 ff_4_0 ⟨rfl, rfl, fun _ => ⟨rfl, rfl⟩⟩ h0 dRe_init_12 (fun r4 => ?_)
  refine c_aload_n X dRe_init_15 rfl ?_
  refine c_new X (N := 5) nw_Re_18 (by decide) (rm_of hR0 (by decide) (by decide)) dRe_init_16 (fun hk5 => ?_)
  refine c_dup X dRe_init_19 rfl ?_
  refine c_nest X (as := []) (rest := [.ref (C.w.ad ((n + 1) + 4)), .ref (C.w.ad o0)]) mm_Te_init mi_Te_init rfl ml_Re_20 (okTe_init ((n + 1) + 4)  (((n + 1) + 4) + 1) r4 s2 C.l C.w) rfl (by decide) rfl (Nat.le_of_ble_eq_true rfl) (rm_of hR0 (by decide) (by decide)) dRe_init_20 (fun r7 s6 => ?_)
  refine c_putRF X hin fl_Re_21 fb_4_1 ff_4_1 ⟨rfl, rfl, fun _ => ⟨rfl, rfl⟩⟩ h0 dRe_init_23 (fun r8 => ?_)
  refine c_aload_n X dRe_init_26 rfl ?_
  refine c_bipush X 27 dRe_init_27 (by decide) ?_
  refine c_newa X (N := 27) (by decide) (by decide) (rm_of hR0 (by decide) (by decide)) (by decide) hz_arI dRe_init_29 (fun hk9 hl10 => ?_)
  refine c_putRF X hin fl_Re_25 fb_4_2 ff_4_2 ⟨rfl, rfl, fun _ => ⟨rfl, rfl⟩⟩ h0 dRe_init_31 (fun r11 => ?_)
  refine c_aload_n X dRe_init_34 rfl ?_
  refine c_iconst X (-1) dRe_init_35 (by decide) ?_
  refine c_putI X fl_Re_29 fb_4_4 fp_4_4 h0 dRe_init_36 (fun s12 => ?_)
  exact c_ret X E (by decide) (by decide) dRe_init_39
set_option maxRecDepth 100000 in
def fTa_init_2_10 (o0 : Nat) (n : Nat) (r0 : Rh) (s0 : Sg) : Option Gt := gk o0 7 (glt o0 n (bnd (pt s0 o0 0 2) fun s1 => glt o0 n (bnd (pt s1 o0 1 10) fun s2 => glt o0 n (gv (s2 o0 0) 2 (glt o0 n (gv (s2 o0 1) 10 (gk n 13 (gl n 20 (glt o0 (n + 1) (bnd (rp r0 o0 2 n) fun r5 => some ((n + 1), r5, s2)))))))))))
set_option maxHeartbeats 4000000 in
set_option maxRecDepth 100000 in
theorem okTa_init_2_10 (o0 : Nat) (n : Nat) (r0 : Rh) (s0 : Sg) : ∀ (l : Launch) (w : WC), OkC l w yTa_init cTa_init 3 1 1 20 [.ref (w.ad o0), .int 2, .int 10] (n, r0, s0) (fTa_init_2_10 o0 n r0 s0) := by
  refine okc_in (av := fun w => [.ref (w.ad o0), .int 2, .int 10]) "LastWordHill$Table" rfl (by decide +kernel) rfl (fun _ => rfl) (fun _ => Nat.le_of_ble_eq_true rfl) ?_
  intro C z X hR0 hin E
  show GP C (fun q => q = z) 0 [some (.ref (C.w.ad o0)), some (.int 2), some (.int 10)] [] 0 0 n r0 s0 (fTa_init_2_10 o0 n r0 s0)
  unfold fTa_init_2_10
  refine gp_k (fun h0 => ?_)
  refine c_aload_n X dTa_init_0 rfl ?_
  refine c_obj X mo_Ta_3 hz_obj (by decide) (Nat.le_of_ble_eq_true rfl) dTa_init_1 ?_
  refine c_aload_n X dTa_init_4 rfl ?_
  refine c_iload_n X dTa_init_5 rfl ?_
  refine c_iconst X 0 dTa_init_6 (by decide) ?_
  refine c_maxv X 2 (by decide) mx_Ta_9 hz_max (by decide) (Nat.le_of_ble_eq_true rfl) (rm_of hR0 (by decide) (by decide)) dTa_init_7 ?_
  refine c_putIF X hin fl_Ta_15 fb_7_0 ff_7_0 h0 dTa_init_10 (fun s1 => ?_)
  refine c_aload_n X dTa_init_13 rfl ?_
  refine c_iload_n X dTa_init_14 rfl ?_
  refine c_iconst X 0 dTa_init_15 (by decide) ?_
  refine c_maxv X 10 (by decide) mx_Ta_9 hz_max (by decide) (Nat.le_of_ble_eq_true rfl) (rm_of hR0 (by decide) (by decide)) dTa_init_16 ?_
  refine c_putIF X hin fl_Ta_21 fb_7_1 ff_7_1 h0 dTa_init_19 (fun s2 => ?_)
  refine c_aload_n X dTa_init_22 rfl ?_
  refine c_aload_n X dTa_init_23 rfl ?_
  refine c_getIv X fl_Ta_15 fb_7_0 h0 dTa_init_24 ?_
  refine c_aload_n X dTa_init_27 rfl ?_
  refine c_getIv X fl_Ta_21 fb_7_1 h0 dTa_init_28 ?_
  refine c_imulv X 20 (by decide) dTa_init_31 ?_
  refine c_newa X (N := 20) (by decide) (by decide) (rm_of hR0 (by decide) (by decide)) (by decide) hz_arI dTa_init_32 (fun hk3 hl4 => ?_)
  refine c_putRF X hin fl_Ta_24 fb_7_2 ff_7_2 ⟨rfl, rfl, fun _ => ⟨rfl, rfl⟩⟩ h0 dTa_init_34 (fun r5 => ?_)
  exact c_ret X E (by decide) (by decide) dTa_init_37
set_option maxRecDepth 100000 in
def fTa_init_2_9 (o0 : Nat) (n : Nat) (r0 : Rh) (s0 : Sg) : Option Gt := gk o0 7 (glt o0 n (bnd (pt s0 o0 0 2) fun s1 => glt o0 n (bnd (pt s1 o0 1 9) fun s2 => glt o0 n (gv (s2 o0 0) 2 (glt o0 n (gv (s2 o0 1) 9 (gk n 13 (gl n 18 (glt o0 (n + 1) (bnd (rp r0 o0 2 n) fun r5 => some ((n + 1), r5, s2)))))))))))
set_option maxHeartbeats 4000000 in
set_option maxRecDepth 100000 in
theorem okTa_init_2_9 (o0 : Nat) (n : Nat) (r0 : Rh) (s0 : Sg) : ∀ (l : Launch) (w : WC), OkC l w yTa_init cTa_init 3 1 1 18 [.ref (w.ad o0), .int 2, .int 9] (n, r0, s0) (fTa_init_2_9 o0 n r0 s0) := by
  refine okc_in (av := fun w => [.ref (w.ad o0), .int 2, .int 9]) "LastWordHill$Table" rfl (by decide +kernel) rfl (fun _ => rfl) (fun _ => Nat.le_of_ble_eq_true rfl) ?_
  intro C z X hR0 hin E
  show GP C (fun q => q = z) 0 [some (.ref (C.w.ad o0)), some (.int 2), some (.int 9)] [] 0 0 n r0 s0 (fTa_init_2_9 o0 n r0 s0)
  unfold fTa_init_2_9
  refine gp_k (fun h0 => ?_)
  refine c_aload_n X dTa_init_0 rfl ?_
  refine c_obj X mo_Ta_3 hz_obj (by decide) (Nat.le_of_ble_eq_true rfl) dTa_init_1 ?_
  refine c_aload_n X dTa_init_4 rfl ?_
  refine c_iload_n X dTa_init_5 rfl ?_
  refine c_iconst X 0 dTa_init_6 (by decide) ?_
  refine c_maxv X 2 (by decide) mx_Ta_9 hz_max (by decide) (Nat.le_of_ble_eq_true rfl) (rm_of hR0 (by decide) (by decide)) dTa_init_7 ?_
  refine c_putIF X hin fl_Ta_15 fb_7_0 ff_7_0 h0 dTa_init_10 (fun s1 => ?_)
  refine c_aload_n X dTa_init_13 rfl ?_
  refine c_iload_n X dTa_init_14 rfl ?_
  refine c_iconst X 0 dTa_init_15 (by decide) ?_
  refine c_maxv X 9 (by decide) mx_Ta_9 hz_max (by decide) (Nat.le_of_ble_eq_true rfl) (rm_of hR0 (by decide) (by decide)) dTa_init_16 ?_
  refine c_putIF X hin fl_Ta_21 fb_7_1 ff_7_1 h0 dTa_init_19 (fun s2 => ?_)
  refine c_aload_n X dTa_init_22 rfl ?_
  refine c_aload_n X dTa_init_23 rfl ?_
  refine c_getIv X fl_Ta_15 fb_7_0 h0 dTa_init_24 ?_
  refine c_aload_n X dTa_init_27 rfl ?_
  refine c_getIv X fl_Ta_21 fb_7_1 h0 dTa_init_28 ?_
  refine c_imulv X 18 (by decide) dTa_init_31 ?_
  refine c_newa X (N := 18) (by decide) (by decide) (rm_of hR0 (by decide) (by decide)) (by decide) hz_arI dTa_init_32 (fun hk3 hl4 => ?_)
  refine c_putRF X hin fl_Ta_24 fb_7_2 ff_7_2 ⟨rfl, rfl, fun _ => ⟨rfl, rfl⟩⟩ h0 dTa_init_34 (fun r5 => ?_)
  exact c_ret X E (by decide) (by decide) dTa_init_37
set_option maxRecDepth 100000 in
def fTa_init_3_16 (o0 : Nat) (n : Nat) (r0 : Rh) (s0 : Sg) : Option Gt := gk o0 7 (glt o0 n (bnd (pt s0 o0 0 3) fun s1 => glt o0 n (bnd (pt s1 o0 1 16) fun s2 => glt o0 n (gv (s2 o0 0) 3 (glt o0 n (gv (s2 o0 1) 16 (gk n 13 (gl n 48 (glt o0 (n + 1) (bnd (rp r0 o0 2 n) fun r5 => some ((n + 1), r5, s2)))))))))))
set_option maxHeartbeats 4000000 in
set_option maxRecDepth 100000 in
theorem okTa_init_3_16 (o0 : Nat) (n : Nat) (r0 : Rh) (s0 : Sg) : ∀ (l : Launch) (w : WC), OkC l w yTa_init cTa_init 3 1 1 48 [.ref (w.ad o0), .int 3, .int 16] (n, r0, s0) (fTa_init_3_16 o0 n r0 s0) := by
  refine okc_in (av := fun w => [.ref (w.ad o0), .int 3, .int 16]) "LastWordHill$Table" rfl (by decide +kernel) rfl (fun _ => rfl) (fun _ => Nat.le_of_ble_eq_true rfl) ?_
  intro C z X hR0 hin E
  show GP C (fun q => q = z) 0 [some (.ref (C.w.ad o0)), some (.int 3), some (.int 16)] [] 0 0 n r0 s0 (fTa_init_3_16 o0 n r0 s0)
  unfold fTa_init_3_16
  refine gp_k (fun h0 => ?_)
  refine c_aload_n X dTa_init_0 rfl ?_
  refine c_obj X mo_Ta_3 hz_obj (by decide) (Nat.le_of_ble_eq_true rfl) dTa_init_1 ?_
  refine c_aload_n X dTa_init_4 rfl ?_
  refine c_iload_n X dTa_init_5 rfl ?_
  refine c_iconst X 0 dTa_init_6 (by decide) ?_
  refine c_maxv X 3 (by decide) mx_Ta_9 hz_max (by decide) (Nat.le_of_ble_eq_true rfl) (rm_of hR0 (by decide) (by decide)) dTa_init_7 ?_
  refine c_putIF X hin fl_Ta_15 fb_7_0 ff_7_0 h0 dTa_init_10 (fun s1 => ?_)
  refine c_aload_n X dTa_init_13 rfl ?_
  refine c_iload_n X dTa_init_14 rfl ?_
  refine c_iconst X 0 dTa_init_15 (by decide) ?_
  refine c_maxv X 16 (by decide) mx_Ta_9 hz_max (by decide) (Nat.le_of_ble_eq_true rfl) (rm_of hR0 (by decide) (by decide)) dTa_init_16 ?_
  refine c_putIF X hin fl_Ta_21 fb_7_1 ff_7_1 h0 dTa_init_19 (fun s2 => ?_)
  refine c_aload_n X dTa_init_22 rfl ?_
  refine c_aload_n X dTa_init_23 rfl ?_
  refine c_getIv X fl_Ta_15 fb_7_0 h0 dTa_init_24 ?_
  refine c_aload_n X dTa_init_27 rfl ?_
  refine c_getIv X fl_Ta_21 fb_7_1 h0 dTa_init_28 ?_
  refine c_imulv X 48 (by decide) dTa_init_31 ?_
  refine c_newa X (N := 48) (by decide) (by decide) (rm_of hR0 (by decide) (by decide)) (by decide) hz_arI dTa_init_32 (fun hk3 hl4 => ?_)
  refine c_putRF X hin fl_Ta_24 fb_7_2 ff_7_2 ⟨rfl, rfl, fun _ => ⟨rfl, rfl⟩⟩ h0 dTa_init_34 (fun r5 => ?_)
  exact c_ret X E (by decide) (by decide) dTa_init_37
set_option maxRecDepth 100000 in
def fTa_init_2_8 (o0 : Nat) (n : Nat) (r0 : Rh) (s0 : Sg) : Option Gt := gk o0 7 (glt o0 n (bnd (pt s0 o0 0 2) fun s1 => glt o0 n (bnd (pt s1 o0 1 8) fun s2 => glt o0 n (gv (s2 o0 0) 2 (glt o0 n (gv (s2 o0 1) 8 (gk n 13 (gl n 16 (glt o0 (n + 1) (bnd (rp r0 o0 2 n) fun r5 => some ((n + 1), r5, s2)))))))))))
set_option maxHeartbeats 4000000 in
set_option maxRecDepth 100000 in
theorem okTa_init_2_8 (o0 : Nat) (n : Nat) (r0 : Rh) (s0 : Sg) : ∀ (l : Launch) (w : WC), OkC l w yTa_init cTa_init 3 1 1 16 [.ref (w.ad o0), .int 2, .int 8] (n, r0, s0) (fTa_init_2_8 o0 n r0 s0) := by
  refine okc_in (av := fun w => [.ref (w.ad o0), .int 2, .int 8]) "LastWordHill$Table" rfl (by decide +kernel) rfl (fun _ => rfl) (fun _ => Nat.le_of_ble_eq_true rfl) ?_
  intro C z X hR0 hin E
  show GP C (fun q => q = z) 0 [some (.ref (C.w.ad o0)), some (.int 2), some (.int 8)] [] 0 0 n r0 s0 (fTa_init_2_8 o0 n r0 s0)
  unfold fTa_init_2_8
  refine gp_k (fun h0 => ?_)
  refine c_aload_n X dTa_init_0 rfl ?_
  refine c_obj X mo_Ta_3 hz_obj (by decide) (Nat.le_of_ble_eq_true rfl) dTa_init_1 ?_
  refine c_aload_n X dTa_init_4 rfl ?_
  refine c_iload_n X dTa_init_5 rfl ?_
  refine c_iconst X 0 dTa_init_6 (by decide) ?_
  refine c_maxv X 2 (by decide) mx_Ta_9 hz_max (by decide) (Nat.le_of_ble_eq_true rfl) (rm_of hR0 (by decide) (by decide)) dTa_init_7 ?_
  refine c_putIF X hin fl_Ta_15 fb_7_0 ff_7_0 h0 dTa_init_10 (fun s1 => ?_)
  refine c_aload_n X dTa_init_13 rfl ?_
  refine c_iload_n X dTa_init_14 rfl ?_
  refine c_iconst X 0 dTa_init_15 (by decide) ?_
  refine c_maxv X 8 (by decide) mx_Ta_9 hz_max (by decide) (Nat.le_of_ble_eq_true rfl) (rm_of hR0 (by decide) (by decide)) dTa_init_16 ?_
  refine c_putIF X hin fl_Ta_21 fb_7_1 ff_7_1 h0 dTa_init_19 (fun s2 => ?_)
  refine c_aload_n X dTa_init_22 rfl ?_
  refine c_aload_n X dTa_init_23 rfl ?_
  refine c_getIv X fl_Ta_15 fb_7_0 h0 dTa_init_24 ?_
  refine c_aload_n X dTa_init_27 rfl ?_
  refine c_getIv X fl_Ta_21 fb_7_1 h0 dTa_init_28 ?_
  refine c_imulv X 16 (by decide) dTa_init_31 ?_
  refine c_newa X (N := 16) (by decide) (by decide) (rm_of hR0 (by decide) (by decide)) (by decide) hz_arI dTa_init_32 (fun hk3 hl4 => ?_)
  refine c_putRF X hin fl_Ta_24 fb_7_2 ff_7_2 ⟨rfl, rfl, fun _ => ⟨rfl, rfl⟩⟩ h0 dTa_init_34 (fun r5 => ?_)
  exact c_ret X E (by decide) (by decide) dTa_init_37
set_option maxRecDepth 100000 in
def fTa_init_2_6 (o0 : Nat) (n : Nat) (r0 : Rh) (s0 : Sg) : Option Gt := gk o0 7 (glt o0 n (bnd (pt s0 o0 0 2) fun s1 => glt o0 n (bnd (pt s1 o0 1 6) fun s2 => glt o0 n (gv (s2 o0 0) 2 (glt o0 n (gv (s2 o0 1) 6 (gk n 13 (gl n 12 (glt o0 (n + 1) (bnd (rp r0 o0 2 n) fun r5 => some ((n + 1), r5, s2)))))))))))
set_option maxHeartbeats 4000000 in
set_option maxRecDepth 100000 in
theorem okTa_init_2_6 (o0 : Nat) (n : Nat) (r0 : Rh) (s0 : Sg) : ∀ (l : Launch) (w : WC), OkC l w yTa_init cTa_init 3 1 1 12 [.ref (w.ad o0), .int 2, .int 6] (n, r0, s0) (fTa_init_2_6 o0 n r0 s0) := by
  refine okc_in (av := fun w => [.ref (w.ad o0), .int 2, .int 6]) "LastWordHill$Table" rfl (by decide +kernel) rfl (fun _ => rfl) (fun _ => Nat.le_of_ble_eq_true rfl) ?_
  intro C z X hR0 hin E
  show GP C (fun q => q = z) 0 [some (.ref (C.w.ad o0)), some (.int 2), some (.int 6)] [] 0 0 n r0 s0 (fTa_init_2_6 o0 n r0 s0)
  unfold fTa_init_2_6
  refine gp_k (fun h0 => ?_)
  refine c_aload_n X dTa_init_0 rfl ?_
  refine c_obj X mo_Ta_3 hz_obj (by decide) (Nat.le_of_ble_eq_true rfl) dTa_init_1 ?_
  refine c_aload_n X dTa_init_4 rfl ?_
  refine c_iload_n X dTa_init_5 rfl ?_
  refine c_iconst X 0 dTa_init_6 (by decide) ?_
  refine c_maxv X 2 (by decide) mx_Ta_9 hz_max (by decide) (Nat.le_of_ble_eq_true rfl) (rm_of hR0 (by decide) (by decide)) dTa_init_7 ?_
  refine c_putIF X hin fl_Ta_15 fb_7_0 ff_7_0 h0 dTa_init_10 (fun s1 => ?_)
  refine c_aload_n X dTa_init_13 rfl ?_
  refine c_iload_n X dTa_init_14 rfl ?_
  refine c_iconst X 0 dTa_init_15 (by decide) ?_
  refine c_maxv X 6 (by decide) mx_Ta_9 hz_max (by decide) (Nat.le_of_ble_eq_true rfl) (rm_of hR0 (by decide) (by decide)) dTa_init_16 ?_
  refine c_putIF X hin fl_Ta_21 fb_7_1 ff_7_1 h0 dTa_init_19 (fun s2 => ?_)
  refine c_aload_n X dTa_init_22 rfl ?_
  refine c_aload_n X dTa_init_23 rfl ?_
  refine c_getIv X fl_Ta_15 fb_7_0 h0 dTa_init_24 ?_
  refine c_aload_n X dTa_init_27 rfl ?_
  refine c_getIv X fl_Ta_21 fb_7_1 h0 dTa_init_28 ?_
  refine c_imulv X 12 (by decide) dTa_init_31 ?_
  refine c_newa X (N := 12) (by decide) (by decide) (rm_of hR0 (by decide) (by decide)) (by decide) hz_arI dTa_init_32 (fun hk3 hl4 => ?_)
  refine c_putRF X hin fl_Ta_24 fb_7_2 ff_7_2 ⟨rfl, rfl, fun _ => ⟨rfl, rfl⟩⟩ h0 dTa_init_34 (fun r5 => ?_)
  exact c_ret X E (by decide) (by decide) dTa_init_37
set_option maxRecDepth 100000 in
def fTa_init_1_12 (o0 : Nat) (n : Nat) (r0 : Rh) (s0 : Sg) : Option Gt := gk o0 7 (glt o0 n (bnd (pt s0 o0 0 1) fun s1 => glt o0 n (bnd (pt s1 o0 1 12) fun s2 => glt o0 n (gv (s2 o0 0) 1 (glt o0 n (gv (s2 o0 1) 12 (gk n 13 (gl n 12 (glt o0 (n + 1) (bnd (rp r0 o0 2 n) fun r5 => some ((n + 1), r5, s2)))))))))))
set_option maxHeartbeats 4000000 in
set_option maxRecDepth 100000 in
theorem okTa_init_1_12 (o0 : Nat) (n : Nat) (r0 : Rh) (s0 : Sg) : ∀ (l : Launch) (w : WC), OkC l w yTa_init cTa_init 3 1 1 12 [.ref (w.ad o0), .int 1, .int 12] (n, r0, s0) (fTa_init_1_12 o0 n r0 s0) := by
  refine okc_in (av := fun w => [.ref (w.ad o0), .int 1, .int 12]) "LastWordHill$Table" rfl (by decide +kernel) rfl (fun _ => rfl) (fun _ => Nat.le_of_ble_eq_true rfl) ?_
  intro C z X hR0 hin E
  show GP C (fun q => q = z) 0 [some (.ref (C.w.ad o0)), some (.int 1), some (.int 12)] [] 0 0 n r0 s0 (fTa_init_1_12 o0 n r0 s0)
  unfold fTa_init_1_12
  refine gp_k (fun h0 => ?_)
  refine c_aload_n X dTa_init_0 rfl ?_
  refine c_obj X mo_Ta_3 hz_obj (by decide) (Nat.le_of_ble_eq_true rfl) dTa_init_1 ?_
  refine c_aload_n X dTa_init_4 rfl ?_
  refine c_iload_n X dTa_init_5 rfl ?_
  refine c_iconst X 0 dTa_init_6 (by decide) ?_
  refine c_maxv X 1 (by decide) mx_Ta_9 hz_max (by decide) (Nat.le_of_ble_eq_true rfl) (rm_of hR0 (by decide) (by decide)) dTa_init_7 ?_
  refine c_putIF X hin fl_Ta_15 fb_7_0 ff_7_0 h0 dTa_init_10 (fun s1 => ?_)
  refine c_aload_n X dTa_init_13 rfl ?_
  refine c_iload_n X dTa_init_14 rfl ?_
  refine c_iconst X 0 dTa_init_15 (by decide) ?_
  refine c_maxv X 12 (by decide) mx_Ta_9 hz_max (by decide) (Nat.le_of_ble_eq_true rfl) (rm_of hR0 (by decide) (by decide)) dTa_init_16 ?_
  refine c_putIF X hin fl_Ta_21 fb_7_1 ff_7_1 h0 dTa_init_19 (fun s2 => ?_)
  refine c_aload_n X dTa_init_22 rfl ?_
  refine c_aload_n X dTa_init_23 rfl ?_
  refine c_getIv X fl_Ta_15 fb_7_0 h0 dTa_init_24 ?_
  refine c_aload_n X dTa_init_27 rfl ?_
  refine c_getIv X fl_Ta_21 fb_7_1 h0 dTa_init_28 ?_
  refine c_imulv X 12 (by decide) dTa_init_31 ?_
  refine c_newa X (N := 12) (by decide) (by decide) (rm_of hR0 (by decide) (by decide)) (by decide) hz_arI dTa_init_32 (fun hk3 hl4 => ?_)
  refine c_putRF X hin fl_Ta_24 fb_7_2 ff_7_2 ⟨rfl, rfl, fun _ => ⟨rfl, rfl⟩⟩ h0 dTa_init_34 (fun r5 => ?_)
  exact c_ret X E (by decide) (by decide) dTa_init_37
set_option maxRecDepth 100000 in
def fTa_init_1_4 (o0 : Nat) (n : Nat) (r0 : Rh) (s0 : Sg) : Option Gt := gk o0 7 (glt o0 n (bnd (pt s0 o0 0 1) fun s1 => glt o0 n (bnd (pt s1 o0 1 4) fun s2 => glt o0 n (gv (s2 o0 0) 1 (glt o0 n (gv (s2 o0 1) 4 (gk n 13 (gl n 4 (glt o0 (n + 1) (bnd (rp r0 o0 2 n) fun r5 => some ((n + 1), r5, s2)))))))))))
set_option maxHeartbeats 4000000 in
set_option maxRecDepth 100000 in
theorem okTa_init_1_4 (o0 : Nat) (n : Nat) (r0 : Rh) (s0 : Sg) : ∀ (l : Launch) (w : WC), OkC l w yTa_init cTa_init 3 1 1 4 [.ref (w.ad o0), .int 1, .int 4] (n, r0, s0) (fTa_init_1_4 o0 n r0 s0) := by
  refine okc_in (av := fun w => [.ref (w.ad o0), .int 1, .int 4]) "LastWordHill$Table" rfl (by decide +kernel) rfl (fun _ => rfl) (fun _ => Nat.le_of_ble_eq_true rfl) ?_
  intro C z X hR0 hin E
  show GP C (fun q => q = z) 0 [some (.ref (C.w.ad o0)), some (.int 1), some (.int 4)] [] 0 0 n r0 s0 (fTa_init_1_4 o0 n r0 s0)
  unfold fTa_init_1_4
  refine gp_k (fun h0 => ?_)
  refine c_aload_n X dTa_init_0 rfl ?_
  refine c_obj X mo_Ta_3 hz_obj (by decide) (Nat.le_of_ble_eq_true rfl) dTa_init_1 ?_
  refine c_aload_n X dTa_init_4 rfl ?_
  refine c_iload_n X dTa_init_5 rfl ?_
  refine c_iconst X 0 dTa_init_6 (by decide) ?_
  refine c_maxv X 1 (by decide) mx_Ta_9 hz_max (by decide) (Nat.le_of_ble_eq_true rfl) (rm_of hR0 (by decide) (by decide)) dTa_init_7 ?_
  refine c_putIF X hin fl_Ta_15 fb_7_0 ff_7_0 h0 dTa_init_10 (fun s1 => ?_)
  refine c_aload_n X dTa_init_13 rfl ?_
  refine c_iload_n X dTa_init_14 rfl ?_
  refine c_iconst X 0 dTa_init_15 (by decide) ?_
  refine c_maxv X 4 (by decide) mx_Ta_9 hz_max (by decide) (Nat.le_of_ble_eq_true rfl) (rm_of hR0 (by decide) (by decide)) dTa_init_16 ?_
  refine c_putIF X hin fl_Ta_21 fb_7_1 ff_7_1 h0 dTa_init_19 (fun s2 => ?_)
  refine c_aload_n X dTa_init_22 rfl ?_
  refine c_aload_n X dTa_init_23 rfl ?_
  refine c_getIv X fl_Ta_15 fb_7_0 h0 dTa_init_24 ?_
  refine c_aload_n X dTa_init_27 rfl ?_
  refine c_getIv X fl_Ta_21 fb_7_1 h0 dTa_init_28 ?_
  refine c_imulv X 4 (by decide) dTa_init_31 ?_
  refine c_newa X (N := 4) (by decide) (by decide) (rm_of hR0 (by decide) (by decide)) (by decide) hz_arI dTa_init_32 (fun hk3 hl4 => ?_)
  refine c_putRF X hin fl_Ta_24 fb_7_2 ff_7_2 ⟨rfl, rfl, fun _ => ⟨rfl, rfl⟩⟩ h0 dTa_init_34 (fun r5 => ?_)
  exact c_ret X E (by decide) (by decide) dTa_init_37
set_option maxRecDepth 100000 in
def fTl_init (o0 : Nat) (n : Nat) (r0 : Rh) (s0 : Sg) : Option Gt := gk o0 10 (gk n 7 (bg (fTa_init_2_10 n  (n + 1) r0 s0) ((n + 1) + 1) (fun _ r3 s2 => glt o0 ((n + 1) + 1) (bnd (rp r3 o0 0 n) fun r4 => gk ((n + 1) + 1) 7 (bg (fTa_init_2_9 ((n + 1) + 1)  (((n + 1) + 1) + 1) r4 s2) ((((n + 1) + 1) + 1) + 1) (fun _ r7 s6 => glt o0 ((((n + 1) + 1) + 1) + 1) (bnd (rp r7 o0 1 ((n + 1) + 1)) fun r8 => gk ((((n + 1) + 1) + 1) + 1) 7 (bg (fTa_init_3_16 ((((n + 1) + 1) + 1) + 1)  (((((n + 1) + 1) + 1) + 1) + 1) r8 s6) ((((((n + 1) + 1) + 1) + 1) + 1) + 1) (fun _ r11 s10 => glt o0 ((((((n + 1) + 1) + 1) + 1) + 1) + 1) (bnd (rp r11 o0 2 ((((n + 1) + 1) + 1) + 1)) fun r12 => gk ((((((n + 1) + 1) + 1) + 1) + 1) + 1) 7 (bg (fTa_init_2_8 ((((((n + 1) + 1) + 1) + 1) + 1) + 1)  (((((((n + 1) + 1) + 1) + 1) + 1) + 1) + 1) r12 s10) ((((((((n + 1) + 1) + 1) + 1) + 1) + 1) + 1) + 1) (fun _ r15 s14 => glt o0 ((((((((n + 1) + 1) + 1) + 1) + 1) + 1) + 1) + 1) (bnd (rp r15 o0 3 ((((((n + 1) + 1) + 1) + 1) + 1) + 1)) fun r16 => gk ((((((((n + 1) + 1) + 1) + 1) + 1) + 1) + 1) + 1) 7 (bg (fTa_init_2_6 ((((((((n + 1) + 1) + 1) + 1) + 1) + 1) + 1) + 1)  (((((((((n + 1) + 1) + 1) + 1) + 1) + 1) + 1) + 1) + 1) r16 s14) ((((((((((n + 1) + 1) + 1) + 1) + 1) + 1) + 1) + 1) + 1) + 1) (fun _ r19 s18 => glt o0 ((((((((((n + 1) + 1) + 1) + 1) + 1) + 1) + 1) + 1) + 1) + 1) (bnd (rp r19 o0 4 ((((((((n + 1) + 1) + 1) + 1) + 1) + 1) + 1) + 1)) fun r20 => gk ((((((((((n + 1) + 1) + 1) + 1) + 1) + 1) + 1) + 1) + 1) + 1) 7 (bg (fTa_init_1_12 ((((((((((n + 1) + 1) + 1) + 1) + 1) + 1) + 1) + 1) + 1) + 1)  (((((((((((n + 1) + 1) + 1) + 1) + 1) + 1) + 1) + 1) + 1) + 1) + 1) r20 s18) ((((((((((((n + 1) + 1) + 1) + 1) + 1) + 1) + 1) + 1) + 1) + 1) + 1) + 1) (fun _ r23 s22 => glt o0 ((((((((((((n + 1) + 1) + 1) + 1) + 1) + 1) + 1) + 1) + 1) + 1) + 1) + 1) (bnd (rp r23 o0 5 ((((((((((n + 1) + 1) + 1) + 1) + 1) + 1) + 1) + 1) + 1) + 1)) fun r24 => gk ((((((((((((n + 1) + 1) + 1) + 1) + 1) + 1) + 1) + 1) + 1) + 1) + 1) + 1) 7 (bg (fTa_init_1_4 ((((((((((((n + 1) + 1) + 1) + 1) + 1) + 1) + 1) + 1) + 1) + 1) + 1) + 1)  (((((((((((((n + 1) + 1) + 1) + 1) + 1) + 1) + 1) + 1) + 1) + 1) + 1) + 1) + 1) r24 s22) ((((((((((((((n + 1) + 1) + 1) + 1) + 1) + 1) + 1) + 1) + 1) + 1) + 1) + 1) + 1) + 1) (fun _ r27 s26 => glt o0 ((((((((((((((n + 1) + 1) + 1) + 1) + 1) + 1) + 1) + 1) + 1) + 1) + 1) + 1) + 1) + 1) (bnd (rp r27 o0 6 ((((((((((((n + 1) + 1) + 1) + 1) + 1) + 1) + 1) + 1) + 1) + 1) + 1) + 1)) fun r28 => glt o0 ((((((((((((((n + 1) + 1) + 1) + 1) + 1) + 1) + 1) + 1) + 1) + 1) + 1) + 1) + 1) + 1) (bnd (pt s26 o0 7 1) fun s29 => glt o0 ((((((((((((((n + 1) + 1) + 1) + 1) + 1) + 1) + 1) + 1) + 1) + 1) + 1) + 1) + 1) + 1) (bnd (pt s29 o0 9 1000) fun s30 => some (((((((((((((((n + 1) + 1) + 1) + 1) + 1) + 1) + 1) + 1) + 1) + 1) + 1) + 1) + 1) + 1), r28, s30)))))))))))))))))))))))))
set_option maxHeartbeats 4000000 in
set_option maxRecDepth 100000 in
theorem okTl_init (o0 : Nat) (n : Nat) (r0 : Rh) (s0 : Sg) : ∀ (l : Launch) (w : WC), OkC l w yTl_init cTl_init 1 2 14 158 [.ref (w.ad o0)] (n, r0, s0) (fTl_init o0 n r0 s0) := by
  refine okc_in (av := fun w => [.ref (w.ad o0)]) "LastWordHill$Told" rfl (by decide +kernel) rfl (fun _ => rfl) (fun _ => Nat.le_of_ble_eq_true rfl) ?_
  intro C z X hR0 hin E
  show GP C (fun q => q = z) 0 [some (.ref (C.w.ad o0))] [] 0 0 n r0 s0 (fTl_init o0 n r0 s0)
  unfold fTl_init
  refine gp_k (fun h0 => ?_)
  refine c_aload_n X dTl_init_0 rfl ?_
  refine c_obj X mo_Tl_3 hz_obj (by decide) (Nat.le_of_ble_eq_true rfl) dTl_init_1 ?_
  refine c_aload_n X dTl_init_4 rfl ?_
  refine c_new X (N := 4) nw_Tl_9 (by decide) (rm_of hR0 (by decide) (by decide)) dTl_init_5 (fun hk1 => ?_)
  refine c_dup X dTl_init_8 rfl ?_
  refine c_iconst X 2 dTl_init_9 (by decide) ?_
  refine c_bipush X 10 dTl_init_10 (by decide) ?_
  refine c_call X (as := [.int 2, .int 10]) (rest := [.ref (C.w.ad n), .ref (C.w.ad o0)]) mm_Ta_init mi_Ta_init rfl ml_Tl_11 (okTa_init_2_10 n  (n + 1) r0 s0 C.l C.w) rfl (by decide) rfl (Nat.le_of_ble_eq_true rfl) (rm_of hR0 (by decide) (by decide)) dTl_init_12 (fun r3 s2 => ?_)
  refine c_putRF X hin fl_Tl_14 fb_10_0 ff_10_0 ⟨rfl, rfl, fun _ => ⟨rfl, rfl⟩⟩ h0 dTl_init_15 (fun r4 => ?_)
  refine c_aload_n X dTl_init_18 rfl ?_
  refine c_new X (N := 4) nw_Tl_9 (by decide) (rm_of hR0 (by decide) (by decide)) dTl_init_19 (fun hk5 => ?_)
  refine c_dup X dTl_init_22 rfl ?_
  refine c_iconst X 2 dTl_init_23 (by decide) ?_
  refine c_bipush X 9 dTl_init_24 (by decide) ?_
  refine c_call X (as := [.int 2, .int 9]) (rest := [.ref (C.w.ad ((n + 1) + 1)), .ref (C.w.ad o0)]) mm_Ta_init mi_Ta_init rfl ml_Tl_11 (okTa_init_2_9 ((n + 1) + 1)  (((n + 1) + 1) + 1) r4 s2 C.l C.w) rfl (by decide) rfl (Nat.le_of_ble_eq_true rfl) (rm_of hR0 (by decide) (by decide)) dTl_init_26 (fun r7 s6 => ?_)
  refine c_putRF X hin fl_Tl_20 fb_10_1 ff_10_1 ⟨rfl, rfl, fun _ => ⟨rfl, rfl⟩⟩ h0 dTl_init_29 (fun r8 => ?_)
  refine c_aload_n X dTl_init_32 rfl ?_
  refine c_new X (N := 4) nw_Tl_9 (by decide) (rm_of hR0 (by decide) (by decide)) dTl_init_33 (fun hk9 => ?_)
  refine c_dup X dTl_init_36 rfl ?_
  refine c_iconst X 3 dTl_init_37 (by decide) ?_
  refine c_bipush X 16 dTl_init_38 (by decide) ?_
  refine c_call X (as := [.int 3, .int 16]) (rest := [.ref (C.w.ad ((((n + 1) + 1) + 1) + 1)), .ref (C.w.ad o0)]) mm_Ta_init mi_Ta_init rfl ml_Tl_11 (okTa_init_3_16 ((((n + 1) + 1) + 1) + 1)  (((((n + 1) + 1) + 1) + 1) + 1) r8 s6 C.l C.w) rfl (by decide) rfl (Nat.le_of_ble_eq_true rfl) (rm_of hR0 (by decide) (by decide)) dTl_init_40 (fun r11 s10 => ?_)
  refine c_putRF X hin fl_Tl_23 fb_10_2 ff_10_2 ⟨rfl, rfl, fun _ => ⟨rfl, rfl⟩⟩ h0 dTl_init_43 (fun r12 => ?_)
  refine c_aload_n X dTl_init_46 rfl ?_
  refine c_new X (N := 4) nw_Tl_9 (by decide) (rm_of hR0 (by decide) (by decide)) dTl_init_47 (fun hk13 => ?_)
  refine c_dup X dTl_init_50 rfl ?_
  refine c_iconst X 2 dTl_init_51 (by decide) ?_
  refine c_bipush X 8 dTl_init_52 (by decide) ?_
  refine c_call X (as := [.int 2, .int 8]) (rest := [.ref (C.w.ad ((((((n + 1) + 1) + 1) + 1) + 1) + 1)), .ref (C.w.ad o0)]) mm_Ta_init mi_Ta_init rfl ml_Tl_11 (okTa_init_2_8 ((((((n + 1) + 1) + 1) + 1) + 1) + 1)  (((((((n + 1) + 1) + 1) + 1) + 1) + 1) + 1) r12 s10 C.l C.w) rfl (by decide) rfl (Nat.le_of_ble_eq_true rfl) (rm_of hR0 (by decide) (by decide)) dTl_init_54 (fun r15 s14 => ?_)
  refine c_putRF X hin fl_Tl_26 fb_10_3 ff_10_3 ⟨rfl, rfl, fun _ => ⟨rfl, rfl⟩⟩ h0 dTl_init_57 (fun r16 => ?_)
  refine c_aload_n X dTl_init_60 rfl ?_
  refine c_new X (N := 4) nw_Tl_9 (by decide) (rm_of hR0 (by decide) (by decide)) dTl_init_61 (fun hk17 => ?_)
  refine c_dup X dTl_init_64 rfl ?_
  refine c_iconst X 2 dTl_init_65 (by decide) ?_
  refine c_bipush X 6 dTl_init_66 (by decide) ?_
  refine c_call X (as := [.int 2, .int 6]) (rest := [.ref (C.w.ad ((((((((n + 1) + 1) + 1) + 1) + 1) + 1) + 1) + 1)), .ref (C.w.ad o0)]) mm_Ta_init mi_Ta_init rfl ml_Tl_11 (okTa_init_2_6 ((((((((n + 1) + 1) + 1) + 1) + 1) + 1) + 1) + 1)  (((((((((n + 1) + 1) + 1) + 1) + 1) + 1) + 1) + 1) + 1) r16 s14 C.l C.w) rfl (by decide) rfl (Nat.le_of_ble_eq_true rfl) (rm_of hR0 (by decide) (by decide)) dTl_init_68 (fun r19 s18 => ?_)
  refine c_putRF X hin fl_Tl_29 fb_10_4 ff_10_4 ⟨rfl, rfl, fun _ => ⟨rfl, rfl⟩⟩ h0 dTl_init_71 (fun r20 => ?_)
  refine c_aload_n X dTl_init_74 rfl ?_
  refine c_new X (N := 4) nw_Tl_9 (by decide) (rm_of hR0 (by decide) (by decide)) dTl_init_75 (fun hk21 => ?_)
  refine c_dup X dTl_init_78 rfl ?_
  refine c_iconst X 1 dTl_init_79 (by decide) ?_
  refine c_bipush X 12 dTl_init_80 (by decide) ?_
  refine c_call X (as := [.int 1, .int 12]) (rest := [.ref (C.w.ad ((((((((((n + 1) + 1) + 1) + 1) + 1) + 1) + 1) + 1) + 1) + 1)), .ref (C.w.ad o0)]) mm_Ta_init mi_Ta_init rfl ml_Tl_11 (okTa_init_1_12 ((((((((((n + 1) + 1) + 1) + 1) + 1) + 1) + 1) + 1) + 1) + 1)  (((((((((((n + 1) + 1) + 1) + 1) + 1) + 1) + 1) + 1) + 1) + 1) + 1) r20 s18 C.l C.w) rfl (by decide) rfl (Nat.le_of_ble_eq_true rfl) (rm_of hR0 (by decide) (by decide)) dTl_init_82 (fun r23 s22 => ?_)
  refine c_putRF X hin fl_Tl_32 fb_10_5 ff_10_5 ⟨rfl, rfl, fun _ => ⟨rfl, rfl⟩⟩ h0 dTl_init_85 (fun r24 => ?_)
  refine c_aload_n X dTl_init_88 rfl ?_
  refine c_new X (N := 4) nw_Tl_9 (by decide) (rm_of hR0 (by decide) (by decide)) dTl_init_89 (fun hk25 => ?_)
  refine c_dup X dTl_init_92 rfl ?_
  refine c_iconst X 1 dTl_init_93 (by decide) ?_
  refine c_iconst X 4 dTl_init_94 (by decide) ?_
  refine c_call X (as := [.int 1, .int 4]) (rest := [.ref (C.w.ad ((((((((((((n + 1) + 1) + 1) + 1) + 1) + 1) + 1) + 1) + 1) + 1) + 1) + 1)), .ref (C.w.ad o0)]) mm_Ta_init mi_Ta_init rfl ml_Tl_11 (okTa_init_1_4 ((((((((((((n + 1) + 1) + 1) + 1) + 1) + 1) + 1) + 1) + 1) + 1) + 1) + 1)  (((((((((((((n + 1) + 1) + 1) + 1) + 1) + 1) + 1) + 1) + 1) + 1) + 1) + 1) + 1) r24 s22 C.l C.w) rfl (by decide) rfl (Nat.le_of_ble_eq_true rfl) (rm_of hR0 (by decide) (by decide)) dTl_init_95 (fun r27 s26 => ?_)
  refine c_putRF X hin fl_Tl_35 fb_10_6 ff_10_6 ⟨rfl, rfl, fun _ => ⟨rfl, rfl⟩⟩ h0 dTl_init_98 (fun r28 => ?_)
  refine c_aload_n X dTl_init_101 rfl ?_
  refine c_iconst X 1 dTl_init_102 (by decide) ?_
  refine c_putI X fl_Tl_38 fb_10_7 fp_10_7 h0 dTl_init_103 (fun s29 => ?_)
  refine c_aload_n X dTl_init_106 rfl ?_
  refine c_sipush X 1000 dTl_init_107 (by decide) ?_
  refine c_putI X fl_Tl_42 fb_10_9 fp_10_9 h0 dTl_init_110 (fun s30 => ?_)
  exact c_ret X E (by decide) (by decide) dTl_init_113
set_option maxRecDepth 100000 in
def fTa_init_5_150 (o0 : Nat) (n : Nat) (r0 : Rh) (s0 : Sg) : Option Gt := gk o0 7 (glt o0 n (bnd (pt s0 o0 0 5) fun s1 => glt o0 n (bnd (pt s1 o0 1 150) fun s2 => glt o0 n (gv (s2 o0 0) 5 (glt o0 n (gv (s2 o0 1) 150 (gk n 13 (gl n 750 (glt o0 (n + 1) (bnd (rp r0 o0 2 n) fun r5 => some ((n + 1), r5, s2)))))))))))
set_option maxHeartbeats 4000000 in
set_option maxRecDepth 100000 in
theorem okTa_init_5_150 (o0 : Nat) (n : Nat) (r0 : Rh) (s0 : Sg) : ∀ (l : Launch) (w : WC), OkC l w yTa_init cTa_init 3 1 1 750 [.ref (w.ad o0), .int 5, .int 150] (n, r0, s0) (fTa_init_5_150 o0 n r0 s0) := by
  refine okc_in (av := fun w => [.ref (w.ad o0), .int 5, .int 150]) "LastWordHill$Table" rfl (by decide +kernel) rfl (fun _ => rfl) (fun _ => Nat.le_of_ble_eq_true rfl) ?_
  intro C z X hR0 hin E
  show GP C (fun q => q = z) 0 [some (.ref (C.w.ad o0)), some (.int 5), some (.int 150)] [] 0 0 n r0 s0 (fTa_init_5_150 o0 n r0 s0)
  unfold fTa_init_5_150
  refine gp_k (fun h0 => ?_)
  refine c_aload_n X dTa_init_0 rfl ?_
  refine c_obj X mo_Ta_3 hz_obj (by decide) (Nat.le_of_ble_eq_true rfl) dTa_init_1 ?_
  refine c_aload_n X dTa_init_4 rfl ?_
  refine c_iload_n X dTa_init_5 rfl ?_
  refine c_iconst X 0 dTa_init_6 (by decide) ?_
  refine c_maxv X 5 (by decide) mx_Ta_9 hz_max (by decide) (Nat.le_of_ble_eq_true rfl) (rm_of hR0 (by decide) (by decide)) dTa_init_7 ?_
  refine c_putIF X hin fl_Ta_15 fb_7_0 ff_7_0 h0 dTa_init_10 (fun s1 => ?_)
  refine c_aload_n X dTa_init_13 rfl ?_
  refine c_iload_n X dTa_init_14 rfl ?_
  refine c_iconst X 0 dTa_init_15 (by decide) ?_
  refine c_maxv X 150 (by decide) mx_Ta_9 hz_max (by decide) (Nat.le_of_ble_eq_true rfl) (rm_of hR0 (by decide) (by decide)) dTa_init_16 ?_
  refine c_putIF X hin fl_Ta_21 fb_7_1 ff_7_1 h0 dTa_init_19 (fun s2 => ?_)
  refine c_aload_n X dTa_init_22 rfl ?_
  refine c_aload_n X dTa_init_23 rfl ?_
  refine c_getIv X fl_Ta_15 fb_7_0 h0 dTa_init_24 ?_
  refine c_aload_n X dTa_init_27 rfl ?_
  refine c_getIv X fl_Ta_21 fb_7_1 h0 dTa_init_28 ?_
  refine c_imulv X 750 (by decide) dTa_init_31 ?_
  refine c_newa X (N := 750) (by decide) (by decide) (rm_of hR0 (by decide) (by decide)) (by decide) hz_arI dTa_init_32 (fun hk3 hl4 => ?_)
  refine c_putRF X hin fl_Ta_24 fb_7_2 ff_7_2 ⟨rfl, rfl, fun _ => ⟨rfl, rfl⟩⟩ h0 dTa_init_34 (fun r5 => ?_)
  exact c_ret X E (by decide) (by decide) dTa_init_37
set_option maxRecDepth 100000 in
def fSu_init (o0 : Nat) (o1 : Nat) (o2 : Nat) (n : Nat) (r0 : Rh) (s0 : Sg) : Option Gt := gk o0 6 (glt o0 n (bnd (rp r0 o0 0 o1) fun r1 => glt o0 n (bnd (rp r1 o0 1 o2) fun r2 => some (n, r2, s0))))
set_option maxHeartbeats 4000000 in
set_option maxRecDepth 100000 in
theorem okSu_init (o0 : Nat) (o1 : Nat) (o2 : Nat) (n : Nat) (r0 : Rh) (s0 : Sg) : ∀ (l : Launch) (w : WC), OkC l w ySu_init cSu_init 3 1 0 0 [.ref (w.ad o0), .ref (w.ad o1), .ref (w.ad o2)] (n, r0, s0) (fSu_init o0 o1 o2 n r0 s0) := by
  refine okc_in (av := fun w => [.ref (w.ad o0), .ref (w.ad o1), .ref (w.ad o2)]) "LastWordHill$Sun" rfl (by decide +kernel) rfl (fun _ => rfl) (fun _ => Nat.le_of_ble_eq_true rfl) ?_
  intro C z X hR0 hin E
  show GP C (fun q => q = z) 0 [some (.ref (C.w.ad o0)), some (.ref (C.w.ad o1)), some (.ref (C.w.ad o2))] [] 0 0 n r0 s0 (fSu_init o0 o1 o2 n r0 s0)
  unfold fSu_init
  refine gp_k (fun h0 => ?_)
  refine c_aload_n X dSu_init_0 rfl ?_
  refine c_obj X mo_Su_3 hz_obj (by decide) (Nat.le_of_ble_eq_true rfl) dSu_init_1 ?_
  refine c_aload_n X dSu_init_4 rfl ?_
  refine c_aload_n X dSu_init_5 rfl ?_
  refine c_putRF X hin fl_Su_9 fb_6_0 ff_6_0 ⟨rfl, rfl, fun _ => ⟨rfl, rfl⟩⟩ h0 dSu_init_6 (fun r1 => ?_)
  refine c_aload_n X dSu_init_9 rfl ?_
  refine c_aload_n X dSu_init_10 rfl ?_
  refine c_putRF X hin fl_Su_15 fb_6_1 ff_6_1 ⟨rfl, rfl, fun _ => ⟨rfl, rfl⟩⟩ h0 dSu_init_11 (fun r2 => ?_)
  exact c_ret X E (by decide) (by decide) dSu_init_14
set_option maxRecDepth 100000 in
def fMu_init (o0 : Nat) (o1 : Nat) (o2 : Nat) (n : Nat) (r0 : Rh) (s0 : Sg) : Option Gt := gk o0 2 (gk n 13 (gl n 10 (glt o0 (n + 1) (bnd (rp r0 o0 2 n) fun r3 => gk (n + 1) 13 (gl (n + 1) 6 (glt o0 ((n + 1) + 1) (bnd (rp r3 o0 3 (n + 1)) fun r6 => gk ((n + 1) + 1) 13 (gl ((n + 1) + 1) 6 (glt o0 (((n + 1) + 1) + 1) (bnd (rp r6 o0 4 ((n + 1) + 1)) fun r9 => gk (((n + 1) + 1) + 1) 13 (gl (((n + 1) + 1) + 1) 100 (glt o0 ((((n + 1) + 1) + 1) + 1) (bnd (rp r9 o0 5 (((n + 1) + 1) + 1)) fun r12 => glt o0 ((((n + 1) + 1) + 1) + 1) (bnd (rp r12 o0 0 o1) fun r13 => glt o0 ((((n + 1) + 1) + 1) + 1) (bnd (rp r13 o0 1 o2) fun r14 => some (((((n + 1) + 1) + 1) + 1), r14, s0))))))))))))))))
set_option maxHeartbeats 4000000 in
set_option maxRecDepth 100000 in
theorem okMu_init (o0 : Nat) (o1 : Nat) (o2 : Nat) (n : Nat) (r0 : Rh) (s0 : Sg) : ∀ (l : Launch) (w : WC), OkC l w yMu_init cMu_init 3 1 4 122 [.ref (w.ad o0), .ref (w.ad o1), .ref (w.ad o2)] (n, r0, s0) (fMu_init o0 o1 o2 n r0 s0) := by
  refine okc_in (av := fun w => [.ref (w.ad o0), .ref (w.ad o1), .ref (w.ad o2)]) "LastWordHill$Muse" rfl (by decide +kernel) rfl (fun _ => rfl) (fun _ => Nat.le_of_ble_eq_true rfl) ?_
  intro C z X hR0 hin E
  show GP C (fun q => q = z) 0 [some (.ref (C.w.ad o0)), some (.ref (C.w.ad o1)), some (.ref (C.w.ad o2))] [] 0 0 n r0 s0 (fMu_init o0 o1 o2 n r0 s0)
  unfold fMu_init
  refine gp_k (fun h0 => ?_)
  refine c_aload_n X dMu_init_0 rfl ?_
  refine c_obj X mo_Mu_3 hz_obj (by decide) (Nat.le_of_ble_eq_true rfl) dMu_init_1 ?_
  refine c_aload_n X dMu_init_4 rfl ?_
  refine c_bipush X 10 dMu_init_5 (by decide) ?_
  refine c_newa X (N := 10) (by decide) (by decide) (rm_of hR0 (by decide) (by decide)) (by decide) hz_arI dMu_init_7 (fun hk1 hl2 => ?_)
  refine c_putRF X hin fl_Mu_9 fb_2_2 ff_2_2 ⟨rfl, rfl, fun _ => ⟨rfl, rfl⟩⟩ h0 dMu_init_9 (fun r3 => ?_)
  refine c_aload_n X dMu_init_12 rfl ?_
  refine c_bipush X 6 dMu_init_13 (by decide) ?_
  refine c_newa X (N := 6) (by decide) (by decide) (rm_of hR0 (by decide) (by decide)) (by decide) hz_arI dMu_init_15 (fun hk4 hl5 => ?_)
  refine c_putRF X hin fl_Mu_15 fb_2_3 ff_2_3 ⟨rfl, rfl, fun _ => ⟨rfl, rfl⟩⟩ h0 dMu_init_17 (fun r6 => ?_)
  refine c_aload_n X dMu_init_20 rfl ?_
  refine c_bipush X 6 dMu_init_21 (by decide) ?_
  refine c_newa X (N := 6) (by decide) (by decide) (rm_of hR0 (by decide) (by decide)) (by decide) hz_arI dMu_init_23 (fun hk7 hl8 => ?_)
  refine c_putRF X hin fl_Mu_18 fb_2_4 ff_2_4 ⟨rfl, rfl, fun _ => ⟨rfl, rfl⟩⟩ h0 dMu_init_25 (fun r9 => ?_)
  refine c_aload_n X dMu_init_28 rfl ?_
  refine c_bipush X 100 dMu_init_29 (by decide) ?_
  refine c_newa X (N := 100) (by decide) (by decide) (rm_of hR0 (by decide) (by decide)) (by decide) hz_arI dMu_init_31 (fun hk10 hl11 => ?_)
  refine c_putRF X hin fl_Mu_21 fb_2_5 ff_2_5 ⟨rfl, rfl, fun _ => ⟨rfl, rfl⟩⟩ h0 dMu_init_33 (fun r12 => ?_)
  refine c_aload_n X dMu_init_36 rfl ?_
  refine c_aload_n X dMu_init_37 rfl ?_
  refine c_putRF X hin fl_Mu_24 fb_2_0 ff_2_0 ⟨rfl, rfl, fun _ => ⟨rfl, rfl⟩⟩ h0 dMu_init_38 (fun r13 => ?_)
  refine c_aload_n X dMu_init_41 rfl ?_
  refine c_aload_n X dMu_init_42 rfl ?_
  refine c_putRF X hin fl_Mu_28 fb_2_1 ff_2_1 ⟨rfl, rfl, fun _ => ⟨rfl, rfl⟩⟩ h0 dMu_init_43 (fun r14 => ?_)
  exact c_ret X E (by decide) (by decide) dMu_init_46
set_option maxRecDepth 100000 in
def fIm_init (o0 : Nat) (n : Nat) (r0 : Rh) (s0 : Sg) : Option Gt := gk o0 0 (gk n 5 (bg (fSc_init n  (n + 1) r0 s0) ((n + 1) + 1) (fun _ r3 s2 => glt o0 ((n + 1) + 1) (bnd (rp r3 o0 0 n) fun r4 => gk ((n + 1) + 1) 8 (bg (fTe_init ((n + 1) + 1)  (((n + 1) + 1) + 1) r4 s2) ((((n + 1) + 1) + 1) + 10) (fun _ r7 s6 => glt o0 ((((n + 1) + 1) + 1) + 10) (bnd (rp r7 o0 1 ((n + 1) + 1)) fun r8 => gk ((((n + 1) + 1) + 1) + 10) 10 (bg (fTl_init ((((n + 1) + 1) + 1) + 10)  (((((n + 1) + 1) + 1) + 10) + 1) r8 s6) ((((((n + 1) + 1) + 1) + 10) + 1) + 14) (fun _ r11 s10 => glt o0 ((((((n + 1) + 1) + 1) + 10) + 1) + 14) (bnd (rp r11 o0 2 ((((n + 1) + 1) + 1) + 10)) fun r12 => gk ((((((n + 1) + 1) + 1) + 10) + 1) + 14) 7 (bg (fTa_init_5_150 ((((((n + 1) + 1) + 1) + 10) + 1) + 14)  (((((((n + 1) + 1) + 1) + 10) + 1) + 14) + 1) r12 s10) ((((((((n + 1) + 1) + 1) + 10) + 1) + 14) + 1) + 1) (fun _ r15 s14 => glt o0 ((((((((n + 1) + 1) + 1) + 10) + 1) + 14) + 1) + 1) (bnd (rp r15 o0 3 ((((((n + 1) + 1) + 1) + 10) + 1) + 14)) fun r16 => some (((((((((n + 1) + 1) + 1) + 10) + 1) + 14) + 1) + 1), r16, s14))))))))))))))
set_option maxHeartbeats 4000000 in
set_option maxRecDepth 100000 in
theorem okIm_init (o0 : Nat) (n : Nat) (r0 : Rh) (s0 : Sg) : ∀ (l : Launch) (w : WC), OkC l w yIm_init cIm_init 1 4 30 1680 [.ref (w.ad o0)] (n, r0, s0) (fIm_init o0 n r0 s0) := by
  refine okc_in (av := fun w => [.ref (w.ad o0)]) "LastWordHill$Image" rfl (by decide +kernel) rfl (fun _ => rfl) (fun _ => Nat.le_of_ble_eq_true rfl) ?_
  intro C z X hR0 hin E
  show GP C (fun q => q = z) 0 [some (.ref (C.w.ad o0))] [] 0 0 n r0 s0 (fIm_init o0 n r0 s0)
  unfold fIm_init
  refine gp_k (fun h0 => ?_)
  refine c_aload_n X dIm_init_0 rfl ?_
  refine c_obj X mo_Im_3 hz_obj (by decide) (Nat.le_of_ble_eq_true rfl) dIm_init_1 ?_
  refine c_aload_n X dIm_init_4 rfl ?_
  refine c_new X (N := 13) nw_Im_9 (by decide) (rm_of hR0 (by decide) (by decide)) dIm_init_5 (fun hk1 => ?_)
  refine c_dup X dIm_init_8 rfl ?_
  refine c_nest X (as := []) (rest := [.ref (C.w.ad n), .ref (C.w.ad o0)]) mm_Sc_init mi_Sc_init rfl ml_Im_11 (okSc_init n  (n + 1) r0 s0 C.l C.w) rfl (by decide) rfl (Nat.le_of_ble_eq_true rfl) (rm_of hR0 (by decide) (by decide)) dIm_init_9 (fun r3 s2 => ?_)
  refine c_putRF X hin fl_Im_12 fb_0_0 ff_0_0 ⟨rfl, rfl, fun _ => ⟨rfl, rfl⟩⟩ h0 dIm_init_12 (fun r4 => ?_)
  refine c_aload_n X dIm_init_15 rfl ?_
  refine c_new X (N := 5) nw_Im_18 (by decide) (rm_of hR0 (by decide) (by decide)) dIm_init_16 (fun hk5 => ?_)
  refine c_dup X dIm_init_19 rfl ?_
  refine c_nest X (as := []) (rest := [.ref (C.w.ad ((n + 1) + 1)), .ref (C.w.ad o0)]) mm_Te_init mi_Te_init rfl ml_Im_20 (okTe_init ((n + 1) + 1)  (((n + 1) + 1) + 1) r4 s2 C.l C.w) rfl (by decide) rfl (Nat.le_of_ble_eq_true rfl) (rm_of hR0 (by decide) (by decide)) dIm_init_20 (fun r7 s6 => ?_)
  refine c_putRF X hin fl_Im_21 fb_0_1 ff_0_1 ⟨rfl, rfl, fun _ => ⟨rfl, rfl⟩⟩ h0 dIm_init_23 (fun r8 => ?_)
  refine c_aload_n X dIm_init_26 rfl ?_
  refine c_new X (N := 10) nw_Im_25 (by decide) (rm_of hR0 (by decide) (by decide)) dIm_init_27 (fun hk9 => ?_)
  refine c_dup X dIm_init_30 rfl ?_
  refine c_nest X (as := []) (rest := [.ref (C.w.ad ((((n + 1) + 1) + 1) + 10)), .ref (C.w.ad o0)]) mm_Tl_init mi_Tl_init rfl ml_Im_27 (okTl_init ((((n + 1) + 1) + 1) + 10)  (((((n + 1) + 1) + 1) + 10) + 1) r8 s6 C.l C.w) rfl (by decide) rfl (Nat.le_of_ble_eq_true rfl) (rm_of hR0 (by decide) (by decide)) dIm_init_31 (fun r11 s10 => ?_)
  refine c_putRF X hin fl_Im_28 fb_0_2 ff_0_2 ⟨rfl, rfl, fun _ => ⟨rfl, rfl⟩⟩ h0 dIm_init_34 (fun r12 => ?_)
  refine c_aload_n X dIm_init_37 rfl ?_
  refine c_new X (N := 4) nw_Im_32 (by decide) (rm_of hR0 (by decide) (by decide)) dIm_init_38 (fun hk13 => ?_)
  refine c_dup X dIm_init_41 rfl ?_
  refine c_iconst X 5 dIm_init_42 (by decide) ?_
  refine c_sipush X 150 dIm_init_43 (by decide) ?_
  refine c_call X (as := [.int 5, .int 150]) (rest := [.ref (C.w.ad ((((((n + 1) + 1) + 1) + 10) + 1) + 14)), .ref (C.w.ad o0)]) mm_Ta_init mi_Ta_init rfl ml_Im_34 (okTa_init_5_150 ((((((n + 1) + 1) + 1) + 10) + 1) + 14)  (((((((n + 1) + 1) + 1) + 10) + 1) + 14) + 1) r12 s10 C.l C.w) rfl (by decide) rfl (Nat.le_of_ble_eq_true rfl) (rm_of hR0 (by decide) (by decide)) dIm_init_46 (fun r15 s14 => ?_)
  refine c_putRF X hin fl_Im_37 fb_0_3 ff_0_3 ⟨rfl, rfl, fun _ => ⟨rfl, rfl⟩⟩ h0 dIm_init_49 (fun r16 => ?_)
  exact c_ret X E (by decide) (by decide) dIm_init_52
set_option maxRecDepth 100000 in
def fH_init (o0 : Nat) (n : Nat) (r0 : Rh) (s0 : Sg) : Option Gt := gk o0 11 (gk n 5 (bg (fSc_init n  (n + 1) r0 s0) ((n + 1) + 1) (fun _ r3 s2 => glt o0 ((n + 1) + 1) (bnd (rp r3 o0 0 n) fun r4 => gk ((n + 1) + 1) 5 (bg (fSc_init ((n + 1) + 1)  (((n + 1) + 1) + 1) r4 s2) ((((n + 1) + 1) + 1) + 1) (fun _ r7 s6 => glt o0 ((((n + 1) + 1) + 1) + 1) (bnd (rp r7 o0 1 ((n + 1) + 1)) fun r8 => gk ((((n + 1) + 1) + 1) + 1) 3 (bg (fPa_init ((((n + 1) + 1) + 1) + 1)  (((((n + 1) + 1) + 1) + 1) + 1) r8 s6) ((((((n + 1) + 1) + 1) + 1) + 1) + 13) (fun _ r11 s10 => glt o0 ((((((n + 1) + 1) + 1) + 1) + 1) + 13) (bnd (rp r11 o0 2 ((((n + 1) + 1) + 1) + 1)) fun r12 => gk ((((((n + 1) + 1) + 1) + 1) + 1) + 13) 8 (bg (fTe_init ((((((n + 1) + 1) + 1) + 1) + 1) + 13)  (((((((n + 1) + 1) + 1) + 1) + 1) + 13) + 1) r12 s10) ((((((((n + 1) + 1) + 1) + 1) + 1) + 13) + 1) + 10) (fun _ r15 s14 => glt o0 ((((((((n + 1) + 1) + 1) + 1) + 1) + 13) + 1) + 10) (bnd (rp r15 o0 3 ((((((n + 1) + 1) + 1) + 1) + 1) + 13)) fun r16 => gk ((((((((n + 1) + 1) + 1) + 1) + 1) + 13) + 1) + 10) 4 (bg (fRe_init ((((((((n + 1) + 1) + 1) + 1) + 1) + 13) + 1) + 10)  (((((((((n + 1) + 1) + 1) + 1) + 1) + 13) + 1) + 10) + 1) r16 s14) ((((((((((n + 1) + 1) + 1) + 1) + 1) + 13) + 1) + 10) + 1) + 17) (fun _ r19 s18 => glt o0 ((((((((((n + 1) + 1) + 1) + 1) + 1) + 13) + 1) + 10) + 1) + 17) (bnd (rp r19 o0 4 ((((((((n + 1) + 1) + 1) + 1) + 1) + 13) + 1) + 10)) fun r20 => gk ((((((((((n + 1) + 1) + 1) + 1) + 1) + 13) + 1) + 10) + 1) + 17) 10 (bg (fTl_init ((((((((((n + 1) + 1) + 1) + 1) + 1) + 13) + 1) + 10) + 1) + 17)  (((((((((((n + 1) + 1) + 1) + 1) + 1) + 13) + 1) + 10) + 1) + 17) + 1) r20 s18) ((((((((((((n + 1) + 1) + 1) + 1) + 1) + 13) + 1) + 10) + 1) + 17) + 1) + 14) (fun _ r23 s22 => glt o0 ((((((((((((n + 1) + 1) + 1) + 1) + 1) + 13) + 1) + 10) + 1) + 17) + 1) + 14) (bnd (rp r23 o0 5 ((((((((((n + 1) + 1) + 1) + 1) + 1) + 13) + 1) + 10) + 1) + 17)) fun r24 => gk ((((((((((((n + 1) + 1) + 1) + 1) + 1) + 13) + 1) + 10) + 1) + 17) + 1) + 14) 7 (bg (fTa_init_5_150 ((((((((((((n + 1) + 1) + 1) + 1) + 1) + 13) + 1) + 10) + 1) + 17) + 1) + 14)  (((((((((((((n + 1) + 1) + 1) + 1) + 1) + 13) + 1) + 10) + 1) + 17) + 1) + 14) + 1) r24 s22) ((((((((((((((n + 1) + 1) + 1) + 1) + 1) + 13) + 1) + 10) + 1) + 17) + 1) + 14) + 1) + 1) (fun _ r27 s26 => glt o0 ((((((((((((((n + 1) + 1) + 1) + 1) + 1) + 13) + 1) + 10) + 1) + 17) + 1) + 14) + 1) + 1) (bnd (rp r27 o0 6 ((((((((((((n + 1) + 1) + 1) + 1) + 1) + 13) + 1) + 10) + 1) + 17) + 1) + 14)) fun r28 => gk ((((((((((((((n + 1) + 1) + 1) + 1) + 1) + 13) + 1) + 10) + 1) + 17) + 1) + 14) + 1) + 1) 6 (glt o0 (((((((((((((((n + 1) + 1) + 1) + 1) + 1) + 13) + 1) + 10) + 1) + 17) + 1) + 14) + 1) + 1) + 1) (grf (r28 o0 3) ((((((n + 1) + 1) + 1) + 1) + 1) + 13) (glt o0 (((((((((((((((n + 1) + 1) + 1) + 1) + 1) + 13) + 1) + 10) + 1) + 17) + 1) + 14) + 1) + 1) + 1) (grf (r28 o0 6) ((((((((((((n + 1) + 1) + 1) + 1) + 1) + 13) + 1) + 10) + 1) + 17) + 1) + 14) (bg (fSu_init ((((((((((((((n + 1) + 1) + 1) + 1) + 1) + 13) + 1) + 10) + 1) + 17) + 1) + 14) + 1) + 1) ((((((n + 1) + 1) + 1) + 1) + 1) + 13) ((((((((((((n + 1) + 1) + 1) + 1) + 1) + 13) + 1) + 10) + 1) + 17) + 1) + 14) (((((((((((((((n + 1) + 1) + 1) + 1) + 1) + 13) + 1) + 10) + 1) + 17) + 1) + 14) + 1) + 1) + 1) r28 s26) ((((((((((((((((n + 1) + 1) + 1) + 1) + 1) + 13) + 1) + 10) + 1) + 17) + 1) + 14) + 1) + 1) + 1) + 0) (fun _ r31 s30 => glt o0 ((((((((((((((((n + 1) + 1) + 1) + 1) + 1) + 13) + 1) + 10) + 1) + 17) + 1) + 14) + 1) + 1) + 1) + 0) (bnd (rp r31 o0 7 ((((((((((((((n + 1) + 1) + 1) + 1) + 1) + 13) + 1) + 10) + 1) + 17) + 1) + 14) + 1) + 1)) fun r32 => gk ((((((((((((((((n + 1) + 1) + 1) + 1) + 1) + 13) + 1) + 10) + 1) + 17) + 1) + 14) + 1) + 1) + 1) + 0) 2 (glt o0 (((((((((((((((((n + 1) + 1) + 1) + 1) + 1) + 13) + 1) + 10) + 1) + 17) + 1) + 14) + 1) + 1) + 1) + 0) + 1) (grf (r32 o0 3) ((((((n + 1) + 1) + 1) + 1) + 1) + 13) (glt o0 (((((((((((((((((n + 1) + 1) + 1) + 1) + 1) + 13) + 1) + 10) + 1) + 17) + 1) + 14) + 1) + 1) + 1) + 0) + 1) (grf (r32 o0 5) ((((((((((n + 1) + 1) + 1) + 1) + 1) + 13) + 1) + 10) + 1) + 17) (bg (fMu_init ((((((((((((((((n + 1) + 1) + 1) + 1) + 1) + 13) + 1) + 10) + 1) + 17) + 1) + 14) + 1) + 1) + 1) + 0) ((((((n + 1) + 1) + 1) + 1) + 1) + 13) ((((((((((n + 1) + 1) + 1) + 1) + 1) + 13) + 1) + 10) + 1) + 17) (((((((((((((((((n + 1) + 1) + 1) + 1) + 1) + 13) + 1) + 10) + 1) + 17) + 1) + 14) + 1) + 1) + 1) + 0) + 1) r32 s30) ((((((((((((((((((n + 1) + 1) + 1) + 1) + 1) + 13) + 1) + 10) + 1) + 17) + 1) + 14) + 1) + 1) + 1) + 0) + 1) + 4) (fun _ r35 s34 => glt o0 ((((((((((((((((((n + 1) + 1) + 1) + 1) + 1) + 13) + 1) + 10) + 1) + 17) + 1) + 14) + 1) + 1) + 1) + 0) + 1) + 4) (bnd (rp r35 o0 8 ((((((((((((((((n + 1) + 1) + 1) + 1) + 1) + 13) + 1) + 10) + 1) + 17) + 1) + 14) + 1) + 1) + 1) + 0)) fun r36 => gk ((((((((((((((((((n + 1) + 1) + 1) + 1) + 1) + 13) + 1) + 10) + 1) + 17) + 1) + 14) + 1) + 1) + 1) + 0) + 1) + 4) 0 (bg (fIm_init ((((((((((((((((((n + 1) + 1) + 1) + 1) + 1) + 13) + 1) + 10) + 1) + 17) + 1) + 14) + 1) + 1) + 1) + 0) + 1) + 4)  (((((((((((((((((((n + 1) + 1) + 1) + 1) + 1) + 13) + 1) + 10) + 1) + 17) + 1) + 14) + 1) + 1) + 1) + 0) + 1) + 4) + 1) r36 s34) ((((((((((((((((((((n + 1) + 1) + 1) + 1) + 1) + 13) + 1) + 10) + 1) + 17) + 1) + 14) + 1) + 1) + 1) + 0) + 1) + 4) + 1) + 30) (fun _ r39 s38 => glt o0 ((((((((((((((((((((n + 1) + 1) + 1) + 1) + 1) + 13) + 1) + 10) + 1) + 17) + 1) + 14) + 1) + 1) + 1) + 0) + 1) + 4) + 1) + 30) (bnd (rp r39 o0 9 ((((((((((((((((((n + 1) + 1) + 1) + 1) + 1) + 13) + 1) + 10) + 1) + 17) + 1) + 14) + 1) + 1) + 1) + 0) + 1) + 4)) fun r40 => some (((((((((((((((((((((n + 1) + 1) + 1) + 1) + 1) + 13) + 1) + 10) + 1) + 17) + 1) + 14) + 1) + 1) + 1) + 0) + 1) + 4) + 1) + 30), r40, s38))))))))))))))))))))))))))))))))))))))))
set_option maxHeartbeats 4000000 in
set_option maxRecDepth 100000 in
theorem okH_init (o0 : Nat) (n : Nat) (r0 : Rh) (s0 : Sg) : ∀ (l : Launch) (w : WC), OkC l w yH_init cH_init 1 5 101 6471 [.ref (w.ad o0)] (n, r0, s0) (fH_init o0 n r0 s0) := by
  refine okc_in (av := fun w => [.ref (w.ad o0)]) "LastWordHill" rfl (by decide +kernel) rfl (fun _ => rfl) (fun _ => Nat.le_of_ble_eq_true rfl) ?_
  intro C z X hR0 hin E
  show GP C (fun q => q = z) 0 [some (.ref (C.w.ad o0))] [] 0 0 n r0 s0 (fH_init o0 n r0 s0)
  unfold fH_init
  refine gp_k (fun h0 => ?_)
  refine c_aload_n X dH_init_0 rfl ?_
  refine c_obj X mo_H_3 hz_obj (by decide) (Nat.le_of_ble_eq_true rfl) dH_init_1 ?_
  refine c_aload_n X dH_init_4 rfl ?_
  refine c_new X (N := 13) nw_H_9 (by decide) (rm_of hR0 (by decide) (by decide)) dH_init_5 (fun hk1 => ?_)
  refine c_dup X dH_init_8 rfl ?_
  refine c_nest X (as := []) (rest := [.ref (C.w.ad n), .ref (C.w.ad o0)]) mm_Sc_init mi_Sc_init rfl ml_H_11 (okSc_init n  (n + 1) r0 s0 C.l C.w) rfl (by decide) rfl (Nat.le_of_ble_eq_true rfl) (rm_of hR0 (by decide) (by decide)) dH_init_9 (fun r3 s2 => ?_)
  refine c_putRF X hin fl_H_12 fb_11_0 ff_11_0 ⟨rfl, rfl, fun _ => ⟨rfl, rfl⟩⟩ h0 dH_init_12 (fun r4 => ?_)
  refine c_aload_n X dH_init_15 rfl ?_
  refine c_new X (N := 13) nw_H_9 (by decide) (rm_of hR0 (by decide) (by decide)) dH_init_16 (fun hk5 => ?_)
  refine c_dup X dH_init_19 rfl ?_
  refine c_nest X (as := []) (rest := [.ref (C.w.ad ((n + 1) + 1)), .ref (C.w.ad o0)]) mm_Sc_init mi_Sc_init rfl ml_H_11 (okSc_init ((n + 1) + 1)  (((n + 1) + 1) + 1) r4 s2 C.l C.w) rfl (by decide) rfl (Nat.le_of_ble_eq_true rfl) (rm_of hR0 (by decide) (by decide)) dH_init_20 (fun r7 s6 => ?_)
  refine c_putRF X hin fl_H_16 fb_11_1 ff_11_1 ⟨rfl, rfl, fun _ => ⟨rfl, rfl⟩⟩ h0 dH_init_23 (fun r8 => ?_)
  refine c_aload_n X dH_init_26 rfl ?_
  refine c_new X (N := 3) nw_H_19 (by decide) (rm_of hR0 (by decide) (by decide)) dH_init_27 (fun hk9 => ?_)
  refine c_dup X dH_init_30 rfl ?_
  refine c_call X (as := []) (rest := [.ref (C.w.ad ((((n + 1) + 1) + 1) + 1)), .ref (C.w.ad o0)]) mm_Pa_init mi_Pa_init rfl ml_H_21 (okPa_init ((((n + 1) + 1) + 1) + 1)  (((((n + 1) + 1) + 1) + 1) + 1) r8 s6 C.l C.w) rfl (by decide) rfl (Nat.le_of_ble_eq_true rfl) (rm_of hR0 (by decide) (by decide)) dH_init_31 (fun r11 s10 => ?_)
  refine c_putRF X hin fl_H_22 fb_11_2 ff_11_2 ⟨rfl, rfl, fun _ => ⟨rfl, rfl⟩⟩ h0 dH_init_34 (fun r12 => ?_)
  refine c_aload_n X dH_init_37 rfl ?_
  refine c_new X (N := 5) nw_H_26 (by decide) (rm_of hR0 (by decide) (by decide)) dH_init_38 (fun hk13 => ?_)
  refine c_dup X dH_init_41 rfl ?_
  refine c_nest X (as := []) (rest := [.ref (C.w.ad ((((((n + 1) + 1) + 1) + 1) + 1) + 13)), .ref (C.w.ad o0)]) mm_Te_init mi_Te_init rfl ml_H_28 (okTe_init ((((((n + 1) + 1) + 1) + 1) + 1) + 13)  (((((((n + 1) + 1) + 1) + 1) + 1) + 13) + 1) r12 s10 C.l C.w) rfl (by decide) rfl (Nat.le_of_ble_eq_true rfl) (rm_of hR0 (by decide) (by decide)) dH_init_42 (fun r15 s14 => ?_)
  refine c_putRF X hin fl_H_29 fb_11_3 ff_11_3 ⟨rfl, rfl, fun _ => ⟨rfl, rfl⟩⟩ h0 dH_init_45 (fun r16 => ?_)
  refine c_aload_n X dH_init_48 rfl ?_
  refine c_new X (N := 8) nw_H_33 (by decide) (rm_of hR0 (by decide) (by decide)) dH_init_49 (fun hk17 => ?_)
  refine c_dup X dH_init_52 rfl ?_
  refine c_nest X (as := []) (rest := [.ref (C.w.ad ((((((((n + 1) + 1) + 1) + 1) + 1) + 13) + 1) + 10)), .ref (C.w.ad o0)]) mm_Re_init mi_Re_init rfl ml_H_35 (okRe_init ((((((((n + 1) + 1) + 1) + 1) + 1) + 13) + 1) + 10)  (((((((((n + 1) + 1) + 1) + 1) + 1) + 13) + 1) + 10) + 1) r16 s14 C.l C.w) rfl (by decide) rfl (Nat.le_of_ble_eq_true rfl) (rm_of hR0 (by decide) (by decide)) dH_init_53 (fun r19 s18 => ?_)
  refine c_putRF X hin fl_H_36 fb_11_4 ff_11_4 ⟨rfl, rfl, fun _ => ⟨rfl, rfl⟩⟩ h0 dH_init_56 (fun r20 => ?_)
  refine c_aload_n X dH_init_59 rfl ?_
  refine c_new X (N := 10) nw_H_40 (by decide) (rm_of hR0 (by decide) (by decide)) dH_init_60 (fun hk21 => ?_)
  refine c_dup X dH_init_63 rfl ?_
  refine c_nest X (as := []) (rest := [.ref (C.w.ad ((((((((((n + 1) + 1) + 1) + 1) + 1) + 13) + 1) + 10) + 1) + 17)), .ref (C.w.ad o0)]) mm_Tl_init mi_Tl_init rfl ml_H_42 (okTl_init ((((((((((n + 1) + 1) + 1) + 1) + 1) + 13) + 1) + 10) + 1) + 17)  (((((((((((n + 1) + 1) + 1) + 1) + 1) + 13) + 1) + 10) + 1) + 17) + 1) r20 s18 C.l C.w) rfl (by decide) rfl (Nat.le_of_ble_eq_true rfl) (rm_of hR0 (by decide) (by decide)) dH_init_64 (fun r23 s22 => ?_)
  refine c_putRF X hin fl_H_43 fb_11_5 ff_11_5 ⟨rfl, rfl, fun _ => ⟨rfl, rfl⟩⟩ h0 dH_init_67 (fun r24 => ?_)
  refine c_aload_n X dH_init_70 rfl ?_
  refine c_new X (N := 4) nw_H_47 (by decide) (rm_of hR0 (by decide) (by decide)) dH_init_71 (fun hk25 => ?_)
  refine c_dup X dH_init_74 rfl ?_
  refine c_iconst X 5 dH_init_75 (by decide) ?_
  refine c_sipush X 150 dH_init_76 (by decide) ?_
  refine c_call X (as := [.int 5, .int 150]) (rest := [.ref (C.w.ad ((((((((((((n + 1) + 1) + 1) + 1) + 1) + 13) + 1) + 10) + 1) + 17) + 1) + 14)), .ref (C.w.ad o0)]) mm_Ta_init mi_Ta_init rfl ml_H_49 (okTa_init_5_150 ((((((((((((n + 1) + 1) + 1) + 1) + 1) + 13) + 1) + 10) + 1) + 17) + 1) + 14)  (((((((((((((n + 1) + 1) + 1) + 1) + 1) + 13) + 1) + 10) + 1) + 17) + 1) + 14) + 1) r24 s22 C.l C.w) rfl (by decide) rfl (Nat.le_of_ble_eq_true rfl) (rm_of hR0 (by decide) (by decide)) dH_init_79 (fun r27 s26 => ?_)
  refine c_putRF X hin fl_H_52 fb_11_6 ff_11_6 ⟨rfl, rfl, fun _ => ⟨rfl, rfl⟩⟩ h0 dH_init_82 (fun r28 => ?_)
  refine c_aload_n X dH_init_85 rfl ?_
  refine c_new X (N := 2) nw_H_56 (by decide) (rm_of hR0 (by decide) (by decide)) dH_init_86 (fun hk29 => ?_)
  refine c_dup X dH_init_89 rfl ?_
  refine c_aload_n X dH_init_90 rfl ?_
  refine c_getR X fl_H_29 fb_11_3 h0 dH_init_91 ?_
  refine c_aload_n X dH_init_94 rfl ?_
  refine c_getR X fl_H_52 fb_11_6 h0 dH_init_95 ?_
  refine c_call X (as := [.ref (C.w.ad ((((((n + 1) + 1) + 1) + 1) + 1) + 13)), .ref (C.w.ad ((((((((((((n + 1) + 1) + 1) + 1) + 1) + 13) + 1) + 10) + 1) + 17) + 1) + 14))]) (rest := [.ref (C.w.ad ((((((((((((((n + 1) + 1) + 1) + 1) + 1) + 13) + 1) + 10) + 1) + 17) + 1) + 14) + 1) + 1)), .ref (C.w.ad o0)]) mm_Su_init mi_Su_init rfl ml_H_58 (okSu_init ((((((((((((((n + 1) + 1) + 1) + 1) + 1) + 13) + 1) + 10) + 1) + 17) + 1) + 14) + 1) + 1) ((((((n + 1) + 1) + 1) + 1) + 1) + 13) ((((((((((((n + 1) + 1) + 1) + 1) + 1) + 13) + 1) + 10) + 1) + 17) + 1) + 14) (((((((((((((((n + 1) + 1) + 1) + 1) + 1) + 13) + 1) + 10) + 1) + 17) + 1) + 14) + 1) + 1) + 1) r28 s26 C.l C.w) rfl (by decide) rfl (Nat.le_of_ble_eq_true rfl) (rm_of hR0 (by decide) (by decide)) dH_init_98 (fun r31 s30 => ?_)
  refine c_putRF X hin fl_H_61 fb_11_7 ff_11_7 ⟨rfl, rfl, fun _ => ⟨rfl, rfl⟩⟩ h0 dH_init_101 (fun r32 => ?_)
  refine c_aload_n X dH_init_104 rfl ?_
  refine c_new X (N := 9) nw_H_65 (by decide) (rm_of hR0 (by decide) (by decide)) dH_init_105 (fun hk33 => ?_)
  refine c_dup X dH_init_108 rfl ?_
  refine c_aload_n X dH_init_109 rfl ?_
  refine c_getR X fl_H_29 fb_11_3 h0 dH_init_110 ?_
  refine c_aload_n X dH_init_113 rfl ?_
  refine c_getR X fl_H_43 fb_11_5 h0 dH_init_114 ?_
  refine c_call X (as := [.ref (C.w.ad ((((((n + 1) + 1) + 1) + 1) + 1) + 13)), .ref (C.w.ad ((((((((((n + 1) + 1) + 1) + 1) + 1) + 13) + 1) + 10) + 1) + 17))]) (rest := [.ref (C.w.ad ((((((((((((((((n + 1) + 1) + 1) + 1) + 1) + 13) + 1) + 10) + 1) + 17) + 1) + 14) + 1) + 1) + 1) + 0)), .ref (C.w.ad o0)]) mm_Mu_init mi_Mu_init rfl ml_H_67 (okMu_init ((((((((((((((((n + 1) + 1) + 1) + 1) + 1) + 13) + 1) + 10) + 1) + 17) + 1) + 14) + 1) + 1) + 1) + 0) ((((((n + 1) + 1) + 1) + 1) + 1) + 13) ((((((((((n + 1) + 1) + 1) + 1) + 1) + 13) + 1) + 10) + 1) + 17) (((((((((((((((((n + 1) + 1) + 1) + 1) + 1) + 13) + 1) + 10) + 1) + 17) + 1) + 14) + 1) + 1) + 1) + 0) + 1) r32 s30 C.l C.w) rfl (by decide) rfl (Nat.le_of_ble_eq_true rfl) (rm_of hR0 (by decide) (by decide)) dH_init_117 (fun r35 s34 => ?_)
  refine c_putRF X hin fl_H_70 fb_11_8 ff_11_8 ⟨rfl, rfl, fun _ => ⟨rfl, rfl⟩⟩ h0 dH_init_120 (fun r36 => ?_)
  refine c_aload_n X dH_init_123 rfl ?_
  refine c_new X (N := 5) nw_H_74 (by decide) (rm_of hR0 (by decide) (by decide)) dH_init_124 (fun hk37 => ?_)
  refine c_dup X dH_init_127 rfl ?_
  refine c_nest X (as := []) (rest := [.ref (C.w.ad ((((((((((((((((((n + 1) + 1) + 1) + 1) + 1) + 13) + 1) + 10) + 1) + 17) + 1) + 14) + 1) + 1) + 1) + 0) + 1) + 4)), .ref (C.w.ad o0)]) mm_Im_init mi_Im_init rfl ml_H_76 (okIm_init ((((((((((((((((((n + 1) + 1) + 1) + 1) + 1) + 13) + 1) + 10) + 1) + 17) + 1) + 14) + 1) + 1) + 1) + 0) + 1) + 4)  (((((((((((((((((((n + 1) + 1) + 1) + 1) + 1) + 13) + 1) + 10) + 1) + 17) + 1) + 14) + 1) + 1) + 1) + 0) + 1) + 4) + 1) r36 s34 C.l C.w) rfl (by decide) rfl (Nat.le_of_ble_eq_true rfl) (rm_of hR0 (by decide) (by decide)) dH_init_128 (fun r39 s38 => ?_)
  refine c_putRF X hin fl_H_77 fb_11_9 ff_11_9 ⟨rfl, rfl, fun _ => ⟨rfl, rfl⟩⟩ h0 dH_init_131 (fun r40 => ?_)
  exact c_ret X E (by decide) (by decide) dH_init_134
