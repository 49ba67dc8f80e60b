/-! more rows: a field of a known object, names for numbers, a copied row, LOWEST and HIGHEST, answers that are scenes -/
def rs (σ : Sg) (o : Nat) (g : Nat → Int32) : Sg := fun q => if q = o then g else σ q
theorem hz_setR (w : WC) (σ : Sg) {o : Nat} (h : o < hz_NO) (hk : hz_kd o = 13) (g : Nat → Int32) : (hz_wl w σ).set o (w.ad o, .inl (w.cI, hz_ln o, .inl g)) = hz_wl w (rs σ o g) := by
  apply List.ext_getElem?
  intro j
  by_cases hj : j = o
  · subst hj
    rw [List.getElem?_set_self (by simpa [hz_wl] using h), hz_wl_at w _ h, hz_ce13 w _ hk]
    simp [rs]
  · rw [List.getElem?_set_ne (Ne.symm hj)]
    by_cases hl : j < hz_NO
    · rw [hz_wl_at w _ hl, hz_wl_at w _ hl]
      simp only [hz_ce, rs, if_neg hj]
    · have hn : ∀ τ : Sg, (hz_wl w τ)[j]? = none := fun τ => List.getElem?_eq_none (by simp [hz_wl]; omega)
      rw [hn, hn]
/-- System.arraycopy of ints -/
def cpy (σ : Sg) (src ls : Nat) (sp : Int32) (dst ld : Nat) (dp n : Int32) : Option Sg :=
  if sp < 0 ∨ dp < 0 ∨ n < 0 ∨ ls < sp.toNatClampNeg + n.toNatClampNeg ∨ ld < dp.toNatClampNeg + n.toNatClampNeg then none
  else some (rs σ dst (va_cpy (σ src) (σ dst) sp.toNatClampNeg dp.toNatClampNeg n.toNatClampNeg))
def gk {R : Type} (o k : Nat) (f : Option R) : Option R := if hz_kd o = k then f else none
def gs {R : Type} (i : Nat) (f : Option R) : Option R := if i < nJS then f else none
theorem hz_ac : Cond.native arraycopyName ∈ hz_wt ∧ Cond.static arraycopyName ∈ hz_wt ∧ Cond.initialized "java/lang/System" ∈ hz_wt := ⟨hz_in 656 (by decide +kernel) (by decide +kernel), hz_in 655 (by decide +kernel) (by decide +kernel), hz_in 148 (by decide +kernel) (by decide +kernel)⟩
section ROWS2
variable {R : Type} {C : Cx} {cc : ByteArray} {nL : Nat} {own : String} {ret : Option FieldType} {d : Nat} {ev : R → Option Value × Sg} {pc : Nat} {L : List (Option Value)} {st : List Value} {σ : Sg} {f f1 f2 : Option R}
theorem gf_nm {e : Int32} {k : Int32 → Option R} (h : ∀ x, GF C ev pc L (.int x :: st) σ (k x)) : GF C ev pc L (.int e :: st) σ (bnd e k) := h e
theorem gf_gk {o k : Nat} (h : hz_kd o = k → GF C ev pc L st σ f) : GF C ev pc L st σ (gk o k f) := gf_ite h (fun _ => gf_no)
theorem gf_gs {i : Nat} (h : i < nJS → GF C ev pc L st σ f) : GF C ev pc L st σ (gs i f) := gf_ite h (fun _ => gf_no)
theorem g_getN (X : Fx C cc nL own ret d) {idx ci k o q : Nat} (fl : FLk own idx ci k) (hb : (hz_bs ci)[k]? = some true) (ho : hz_kd o = ci) (hq : hz_rf o k = q) (hd : decode cc pc = .ok (.getfield idx, 3)) (kk : GF C ev (pc + 3) L (.ref (C.w.ad q) :: st) σ f) : GF C ev pc L (.ref (C.w.ad o) :: st) σ f := g_getR X fl hb ho hd (by rw [hq]; exact kk)
theorem g_getlo (X : Fx C cc nL own ret d) {idx : Nat} (hw : Cond.fieldLink own idx "LastWordHill" "LOWEST" "[I" ∈ hz_wt) (hd : decode cc pc = .ok (.getstatic idx, 3)) (kk : GF C ev (pc + 3) L (.ref C.w.lo :: st) σ f) : GF C ev pc L st σ f := fun z hz he H locs ls hP hS hl => va_gets X.hx X.hb X.hC.1 hS X.hown (X.hts _ hw) (fun x h => h) hd (kk z hz he H locs ls hP hS hl)
theorem g_gethi (X : Fx C cc nL own ret d) {idx : Nat} (hw : Cond.fieldLink own idx "LastWordHill" "HIGHEST" "[I" ∈ hz_wt) (hd : decode cc pc = .ok (.getstatic idx, 3)) (kk : GF C ev (pc + 3) L (.ref C.w.hi :: st) σ f) : GF C ev pc L st σ f := fun z hz he H locs ls hP hS hl => va_gets X.hx X.hb X.hC.2.2.1 hS X.hown (X.hts _ hw) (fun x h => h) hd (kk z hz he H locs ls hP hS hl)
theorem g_ialdlo (X : Fx C cc nL own ret d) {i : Int32} (hd : decode cc pc = .ok (.iaload, 1)) (kk : GF C ev (pc + 1) L (.int (loV.getD i.toNatClampNeg 0) :: st) σ f) : GF C ev pc L (.int i :: .ref C.w.lo :: st) σ (gd i 5 f) := gf_ite (fun _ => gf_no) (fun hin z hz he H locs ls hP hS hl => va_ti X.hx X.hb X.hC.2.1 hS hin rfl hd (kk z hz he H locs ls hP hS hl))
theorem g_ialdhi (X : Fx C cc nL own ret d) {i : Int32} (hd : decode cc pc = .ok (.iaload, 1)) (kk : GF C ev (pc + 1) L (.int (hiV.getD i.toNatClampNeg 0) :: st) σ f) : GF C ev pc L (.int i :: .ref C.w.hi :: st) σ (gd i 5 f) := gf_ite (fun _ => gf_no) (fun hin z hz he H locs ls hP hS hl => va_ti X.hx X.hb X.hC.2.2.2.1 hS hin rfl hd (kk z hz he H locs ls hP hS hl))
theorem g_acopy (X : Fx C cc nL own ret d) {idx src dst ls ld : Nat} {sp dp n : Int32} (hs : hz_kd src = 13) (hls : hz_ln src = ls) (ht : hz_kd dst = 13) (hld : hz_ln dst = ld) (hw : Cond.methodLink own idx arraycopyName ∈ hz_wt) (hd : decode cc pc = .ok (.invokestatic idx, 3)) (h1 : 0 < d) (hro : (st.map fun v => v.category).sum ≤ 8)
    {kf : Sg → Option R} (kk : ∀ τ, GF C ev (pc + 3) L st τ (kf τ)) : GF C ev pc L (.int n :: .int dp :: .ref (C.w.ad dst) :: .int sp :: .ref (C.w.ad src) :: st) σ (bv (cpy σ src ls sp dst ld dp n) kf) := by
  intro z hz he H locs lsl hP hS hl
  obtain ⟨u, hu, hk⟩ := Option.bind_eq_some_iff.mp hz
  unfold cpy at hu
  split at hu
  · cases hu
  · rename_i hc
    simp only [not_or, Nat.not_lt] at hc
    obtain ⟨c1, c2, c3, c4, c5⟩ := hc
    cases hu
    have hN := hz_kd_lt ht (by omega)
    have hat0 := hz_wl_at C.w σ (hz_kd_lt hs (by omega))
    have hat1 := hz_wl_at C.w σ hN
    rw [hz_ce13 C.w σ hs, hls] at hat0
    rw [hz_ce13 C.w σ ht, hld] at hat1
    refine va_copyi X.hx X.hb hl.1.symm X.hown (X.hts _ hw) (X.hts _ hz_ac.1) (X.hts _ hz_ac.2.1) (X.hts _ hz_ac.2.2) X.hK hP (X.hD σ) hS src dst 0 0 hat0 hat1 rfl rfl rfl c1 c2 c3 c4 c5 (fun _ _ => rfl) ?_ ?_ hd (fun H1 locs1 hP1 _ hS1 => ?_)
    · have := X.hR
      omega
    · have := X.hR
      have h7 : nativeFrameWords "java/lang/System" "arraycopy" 5 = 7 := by decide +kernel
      rw [h7]
      omega
    · refine kk _ z hk he H1 locs1 lsl ?_ hS1 hl
      rw [← hz_setR C.w σ hN ht, hld]
      exact hP1
end ROWS2
