/-! the growing world: the first n objects are made; what they refer to so far (ρ), what they hold (σ) -/
abbrev Rh : Type := Nat → Nat → Option Nat
def rp (ρ : Rh) (o k q : Nat) : Rh := fun a j => if a = o then (if j = k then some q else ρ a j) else ρ a j
def cg_fv (ad : Nat → Nat) (r : Nat → Option Nat) (s : Nat → Int32) : Nat → List Bool → List Value
  | _, [] => []
  | j, b :: t => (if b = true then va_rf ((r j).map ad) else Value.int (s j)) :: cg_fv ad r s (j + 1) t
def cg_e (w : WC) (ρ : Rh) (σ : Sg) (o : Nat) : va_E :=
  if hz_kd o = 13 then .inl (w.cI, hz_ln o, .inl (σ o))
  else if hz_kd o = 14 then .inl (w.cS, hz_ln o, .inr (.inr (.inr (.inr (fun i => (ρ o i).map w.ad)))))
  else .inr (hz_kd o, cg_fv w.ad (ρ o) (σ o) 0 (hz_bs (hz_kd o)))
def cg_w (w : WC) (n : Nat) (ρ : Rh) (σ : Sg) : va_W := (List.range n).map fun o => (w.ad o, cg_e w ρ σ o)
theorem cg_at (w : WC) (ρ : Rh) (σ : Sg) {n o : Nat} (h : o < n) : (cg_w w n ρ σ)[o]? = some (w.ad o, cg_e w ρ σ o) := by
  simp [cg_w, List.getElem?_map, h]
theorem cg_len (w : WC) (ρ : Rh) (σ : Sg) (n : Nat) : (cg_w w n ρ σ).length = n := by simp [cg_w]
theorem cg_push (w : WC) (ρ : Rh) (σ : Sg) (n : Nat) : cg_w w (n + 1) ρ σ = cg_w w n ρ σ ++ [(w.ad n, cg_e w ρ σ n)] := by
  simp [cg_w, List.range_succ]
theorem cg_fv_at {ad : Nat → Nat} {r : Nat → Option Nat} {s : Nat → Int32} : ∀ (bs : List Bool) (i k : Nat), (cg_fv ad r s i bs)[k]? = (bs[k]?).map fun b => if b = true then va_rf ((r (i + k)).map ad) else Value.int (s (i + k))
  | [], i, k => by simp [cg_fv]
  | b :: t, i, k => by
    cases k with
    | zero => simp [cg_fv]
    | succ k =>
      simp only [cg_fv, List.getElem?_cons_succ]
      rw [cg_fv_at t (i + 1) k]
      have : i + 1 + k = i + (k + 1) := by omega
      rw [this]
theorem cg_fv_len {ad : Nat → Nat} {r : Nat → Option Nat} {s : Nat → Int32} : ∀ (bs : List Bool) (i : Nat), (cg_fv ad r s i bs).length = bs.length
  | [], i => rfl
  | b :: t, i => by simp [cg_fv, cg_fv_len t (i + 1)]
theorem cg_fv_setI {ad : Nat → Nat} {r : Nat → Option Nat} {s : Nat → Int32} {bs : List Bool} {k : Nat} {v : Int32} (hb : bs[k]? = some false) : (cg_fv ad r s 0 bs).set k (.int v) = cg_fv ad r (fun j => if j = k then v else s j) 0 bs := by
  apply List.ext_getElem?
  intro j
  by_cases hj : j = k
  · subst hj
    have hl : j < (cg_fv ad r s 0 bs).length := by
      rw [cg_fv_len]
      exact (List.getElem?_eq_some_iff.mp hb).1
    rw [List.getElem?_set_self hl, cg_fv_at, hb]
    simp
  · rw [List.getElem?_set_ne (Ne.symm hj), cg_fv_at, cg_fv_at]
    simp [hj]
theorem cg_fv_setR {ad : Nat → Nat} {r : Nat → Option Nat} {s : Nat → Int32} {bs : List Bool} {k q : Nat} (hb : bs[k]? = some true) : (cg_fv ad r s 0 bs).set k (.ref (ad q)) = cg_fv ad (fun j => if j = k then some q else r j) s 0 bs := by
  apply List.ext_getElem?
  intro j
  by_cases hj : j = k
  · subst hj
    have hl : j < (cg_fv ad r s 0 bs).length := by
      rw [cg_fv_len]
      exact (List.getElem?_eq_some_iff.mp hb).1
    rw [List.getElem?_set_self hl, cg_fv_at, hb]
    simp [va_rf]
  · rw [List.getElem?_set_ne (Ne.symm hj), cg_fv_at, cg_fv_at]
    simp [hj]
theorem rp_row (ρ : Rh) (o k q : Nat) : rp ρ o k q o = fun j => if j = k then some q else ρ o j := by
  funext j
  simp [rp]
theorem rp_ne (ρ : Rh) {o a : Nat} (k q : Nat) (h : a ≠ o) : rp ρ o k q a = ρ a := by
  funext j
  simp [rp, h]
theorem cg_set {w : WC} {ρ ρ' : Rh} {σ σ' : Sg} {n o : Nat} (h : o < n) (hr : ∀ a, a ≠ o → ρ' a = ρ a) (hs : ∀ a, a ≠ o → σ' a = σ a) : (cg_w w n ρ σ).set o (w.ad o, cg_e w ρ' σ' o) = cg_w w n ρ' σ' := by
  apply List.ext_getElem?
  intro j
  by_cases hj : j = o
  · subst hj
    rw [List.getElem?_set_self (by rw [cg_len]; exact h), cg_at w _ _ h]
  · rw [List.getElem?_set_ne (Ne.symm hj)]
    by_cases hl : j < n
    · rw [cg_at w _ _ hl, cg_at w _ _ hl]
      simp only [cg_e, hr j hj, hs j hj]
    · have hn : ∀ (r : Rh) (τ : Sg), (cg_w w n r τ)[j]? = none := fun r τ => List.getElem?_eq_none (by rw [cg_len]; omega)
      rw [hn, hn]
theorem cg_e13 (w : WC) (ρ : Rh) (σ : Sg) {o : Nat} (h : hz_kd o = 13) : cg_e w ρ σ o = .inl (w.cI, hz_ln o, .inl (σ o)) := by simp [cg_e, h]
theorem cg_e14 (w : WC) (ρ : Rh) (σ : Sg) {o : Nat} (h : hz_kd o = 14) : cg_e w ρ σ o = .inl (w.cS, hz_ln o, .inr (.inr (.inr (.inr (fun i => (ρ o i).map w.ad))))) := by simp [cg_e, h]
theorem cg_eO (w : WC) (ρ : Rh) (σ : Sg) {o ci : Nat} (h : hz_kd o = ci) (hc : ci < 13) : cg_e w ρ σ o = .inr (ci, cg_fv w.ad (ρ o) (σ o) 0 (hz_bs ci)) := by
  have h1 : ¬ hz_kd o = 13 := by omega
  have h2 : ¬ hz_kd o = 14 := by omega
  rw [cg_e, if_neg h1, if_neg h2, h]
/-- what isn't made yet holds nothing -/
def Fr (n : Nat) (ρ : Rh) (σ : Sg) : Prop := ∀ a, n ≤ a → ρ a = (fun _ => none) ∧ σ a = fun _ => 0
/-- the addresses lie one behind the other -/
def Ln (w : WC) : Prop := ∀ o, w.ad o = w.ad 0 + o
abbrev cA0 (w : WC) : Nat → Prop := fun q => w.ad 0 ≤ q
theorem cg_D {w : WC} (h : Ln w) (n : Nat) (ρ : Rh) (σ : Sg) : va_D (cA0 w) (cg_w w n ρ σ) := by
  have key : ∀ (k : Nat) (q : Nat × va_E), (cg_w w n ρ σ)[k]? = some q → k < n ∧ q.1 = w.ad k := by
    intro k q hk
    have hl : k < n := by
      have := (List.getElem?_eq_some_iff.mp hk).1
      rwa [cg_len] at this
    rw [cg_at w _ _ hl] at hk
    cases hk
    exact ⟨hl, rfl⟩
  refine ⟨fun i j p q hi hj e => ?_, fun k q hk => ?_⟩
  · have a2 := (key i p hi).2
    have b2 := (key j q hj).2
    rw [a2, b2, h i, h j] at e
    omega
  · rw [(key k q hk).2, h k]
    show w.ad 0 ≤ w.ad 0 + k
    omega
abbrev Gt : Type := Nat × Rh × Sg
def WdG (w : WC) (z : Gt) (U : State) : Prop := U.heap.size = w.ad z.1 ∧ va_P w.D hz_cl (cg_w w z.1 z.2.1 z.2.2) U.heap ∧ va_K w.D hz_cl (hz_ty w) U ∧ Ln w ∧ Fr z.1 z.2.1 z.2.2 ∧ va_AO "LastWordHill$Scene" U ∧ hz_N U
def QxG (w : WC) (z : Gt) : Array Value → State → Outcome → State → Prop := fun _ st oc t => oc = .returned none ∧ WdG w z t ∧ va_F (cA0 w) st t
def rmC (d mc ms : Nat) : Room := { frames := d, cells := mc, slots := ms, locals := 100 * d }
def OkC (l : Launch) (w : WC) (y : MethodName) (cc : ByteArray) (maxL d mc ms : Nat) (av : List Value) (z : Gt) (f : Option Gt) : Prop :=
  ∀ z', f = some z' → Met l y (Cond.code y cc maxL none :: hz_wt) (rmC d mc ms) (va_Pc av (WdG w z)) (QxG w z') mc ms (cA0 w)
/-- a constructor's context: as a method's, but that its world grows -/
def FxC (C : Cx) (cc : ByteArray) (nL : Nat) (own : String) (d : Nat) : Prop :=
  C.p.tables.exec = Jvm.exec ∧ C.c.code = cc ∧ C.c.maxLocals = nL ∧ C.s.vm.findClass own = some C.m.cls ∧ (∀ w ∈ hz_wt, w.before C.args C.s = true) ∧ (d ≤ C.R.frames ∧ 100 * d ≤ C.R.locals) ∧ va_K C.w.D hz_cl (hz_ty C.w) C.s ∧ Ln C.w ∧ va_AO "LastWordHill$Scene" C.s ∧ (C.A = cA0 C.w) ∧ C.w.ad 0 ≤ C.s.heap.size ∧ hz_N C.s
def GC (C : Cx) (pc : Nat) (L : List (Option Value)) (st : List Value) (k m : Nat) (n : Nat) (ρ : Rh) (σ : Sg) : Prop :=
  ∀ (H : Heap) (locs : List Loc) (ls : Array Slot), C.s.heap.size + k = C.w.ad n → Fr n ρ σ → va_P C.w.D hz_cl (cg_w C.w n ρ σ) H → va_S C.A C.s.heap H locs → LV ls C.c.maxLocals L →
    W C.p C.l C.e C.R C.s C.m C.args C.below C.meth C.c H locs k m C.Q (F0 C.m pc ls st)
/-- P: what the end wants of the last state -/
def GP (C : Cx) (P : Gt → Prop) (pc : Nat) (L : List (Option Value)) (st : List Value) (k m : Nat) (n : Nat) (ρ : Rh) (σ : Sg) (f : Option Gt) : Prop := ∀ z, f = some z → P z → GC C pc L st k m n ρ σ
def gl {R : Type} (o n : Nat) (f : Option R) : Option R := if hz_ln o = n then f else none
def glt {R : Type} (o n : Nat) (f : Option R) : Option R := if o < n then f else none
def bg (f : Option Gt) (n : Nat) (k : Nat → Rh → Sg → Option Gt) : Option Gt := f.bind fun z => if z.1 = n then k z.1 z.2.1 z.2.2 else none
section CROWS
variable {C : Cx} {P : Gt → Prop} {cc : ByteArray} {nL : Nat} {own : String} {d : Nat} {pc : Nat} {L : List (Option Value)} {st rest st0 : List Value} {k m n : Nat} {ρ : Rh} {σ : Sg} {f : Option Gt}
theorem FxC.hx (X : FxC C cc nL own d) : C.p.tables.exec = Jvm.exec := X.1
theorem FxC.hb (X : FxC C cc nL own d) : C.c.code = cc := X.2.1
theorem FxC.hml (X : FxC C cc nL own d) : C.c.maxLocals = nL := X.2.2.1
theorem FxC.hown (X : FxC C cc nL own d) : C.s.vm.findClass own = some C.m.cls := X.2.2.2.1
theorem FxC.hts (X : FxC C cc nL own d) : ∀ w ∈ hz_wt, w.before C.args C.s = true := X.2.2.2.2.1
theorem FxC.hR (X : FxC C cc nL own d) : d ≤ C.R.frames ∧ 100 * d ≤ C.R.locals := X.2.2.2.2.2.1
theorem FxC.hK (X : FxC C cc nL own d) : va_K C.w.D hz_cl (hz_ty C.w) C.s := X.2.2.2.2.2.2.1
theorem FxC.hL (X : FxC C cc nL own d) : Ln C.w := X.2.2.2.2.2.2.2.1
theorem FxC.hO (X : FxC C cc nL own d) : va_AO "LastWordHill$Scene" C.s := X.2.2.2.2.2.2.2.2.1
theorem FxC.hA (X : FxC C cc nL own d) : C.A = cA0 C.w := X.2.2.2.2.2.2.2.2.2.1
theorem FxC.hz (X : FxC C cc nL own d) : C.w.ad 0 ≤ C.s.heap.size := X.2.2.2.2.2.2.2.2.2.2.1
theorem FxC.hNt (X : FxC C cc nL own d) : hz_N C.s := X.2.2.2.2.2.2.2.2.2.2.2
theorem FxC.hD (X : FxC C cc nL own d) (n : Nat) (ρ : Rh) (σ : Sg) : va_D C.A (cg_w C.w n ρ σ) := by rw [X.hA]; exact cg_D X.hL n ρ σ
theorem FxC.hN (X : FxC C cc nL own d) : ∀ q, C.s.heap.size ≤ q → C.A q := fun q h => by rw [X.hA]; exact Nat.le_trans X.hz h
theorem cg_sz (X : FxC C cc nL own d) {H : Heap} {locs : List Loc} {T : State} (hk : C.s.heap.size + k = C.w.ad n) (hP : va_P C.w.D hz_cl (cg_w C.w n ρ σ) H) (hS : va_S C.A C.s.heap H locs) (hT : T.heap = H) (XS : Stand C.p C.l C.e C.R C.s C.m C.args C.below C.meth C.c T locs k m) : H.size = C.w.ad n := by
  have h1 := XS.heapSize
  rw [hT, hk] at h1
  have h2 : C.w.ad n ≤ H.size := by
    cases n with
    | zero =>
      have := X.hz
      have := hS.1
      omega
    | succ n =>
      have h3 := (hP n _ (cg_at C.w ρ σ (Nat.lt_succ_self n))).lt
      have h4 : C.w.ad n < H.size := h3
      rw [X.hL n] at h4
      rw [X.hL (n + 1)]
      omega
  omega
theorem W_by {p : Program} {l : Launch} {e : Env} {R : Room} {s : State} {mm : MethodId} {args : Array Value} {below : List Frame} {meth : Method} {c : Code} {H : Heap} {locs : List Loc} {cells slots : Nat} {Q : State → Prop} {g : JFrame} (h : ∀ T : State, T.heap = H → Stand p l e R s mm args below meth c T locs cells slots → W p l e R s mm args below meth c H locs cells slots Q g) : W p l e R s mm args below meth c H locs cells slots Q g := fun T hT XS => h T hT XS T hT XS
theorem gp_no : GP C P pc L st k m n ρ σ none := fun _ h => by cases h
theorem gp_ite {c : Prop} {hc : Decidable c} (kt : c → GP C P pc L st k m n ρ σ f) : GP C P pc L st k m n ρ σ (@ite _ c hc f none) := by
  intro z hz he
  by_cases h : c
  · rw [if_pos h] at hz; exact kt h z hz he
  · rw [if_neg h] at hz; cases hz
theorem gp_k {o i : Nat} (h : hz_kd o = i → GP C P pc L st k m n ρ σ f) : GP C P pc L st k m n ρ σ (gk o i f) := gp_ite h
theorem gp_l {o i : Nat} (h : hz_ln o = i → GP C P pc L st k m n ρ σ f) : GP C P pc L st k m n ρ σ (gl o i f) := gp_ite h
theorem gp_lt {o i : Nat} (h : o < i → GP C P pc L st k m n ρ σ f) : GP C P pc L st k m n ρ σ (glt o i f) := gp_ite h
theorem c_iconst (X : FxC C cc nL own d) {i : Int} (v : Int32) (hd : decode cc pc = .ok (.iconst i, 1)) (hv : Int32.ofInt i = v) (kk : GP C P (pc + 1) L (.int v :: st) k m n ρ σ f) : GP C P pc L st k m n ρ σ f := fun z hz he H locs ls hs hF hP hS hl => lv_iconst X.hx X.hb hd hv (kk z hz he H locs ls hs hF hP hS hl)
theorem c_bipush (X : FxC C cc nL own d) {i : Int} (v : Int32) (hd : decode cc pc = .ok (.bipush i, 2)) (hv : (Int8.ofInt i).toInt32 = v) (kk : GP C P (pc + 2) L (.int v :: st) k m n ρ σ f) : GP C P pc L st k m n ρ σ f := fun z hz he H locs ls hs hF hP hS hl => lv_bipush X.hx X.hb hd hv (kk z hz he H locs ls hs hF hP hS hl)
theorem c_sipush (X : FxC C cc nL own d) {i : Int} (v : Int32) (hd : decode cc pc = .ok (.sipush i, 3)) (hv : (Int16.ofInt i).toInt32 = v) (kk : GP C P (pc + 3) L (.int v :: st) k m n ρ σ f) : GP C P pc L st k m n ρ σ f := fun z hz he H locs ls hs hF hP hS hl => lv_sipush X.hx X.hb hd hv (kk z hz he H locs ls hs hF hP hS hl)
theorem c_aload_n (X : FxC C cc nL own d) {j : Fin 4} {x : Nat} (hd : decode cc pc = .ok (.aload_n j, 1)) (h : L[(j : Nat)]? = some (some (.ref x))) (kk : GP C P (pc + 1) L (.ref x :: st) k m n ρ σ f) : GP C P pc L st k m n ρ σ f := fun z hz he H locs ls hs hF hP hS hl => lv_aload_n X.hx X.hb hd rfl (hl.2.2 _ _ h).1 (kk z hz he H locs ls hs hF hP hS hl)
theorem c_iload_n (X : FxC C cc nL own d) {j : Fin 4} {x : Int32} (hd : decode cc pc = .ok (.iload_n j, 1)) (h : L[(j : Nat)]? = some (some (.int x))) (kk : GP C P (pc + 1) L (.int x :: st) k m n ρ σ f) : GP C P pc L st k m n ρ σ f := fun z hz he H locs ls hs hF hP hS hl => lv_iload_n X.hx X.hb hd rfl (hl.2.2 _ _ h).1 (kk z hz he H locs ls hs hF hP hS hl)
theorem c_istore_n (X : FxC C cc nL own d) {j : Fin 4} {x : Int32} (L' : List (Option Value)) (hd : decode cc pc = .ok (.istore_n j, 1)) (hi : (j : Nat) < nL) (hj : (j : Nat) < L.length) (hL : L.set j (some (.int x)) = L') (kk : GP C P (pc + 1) L' st k m n ρ σ f) : GP C P pc L (.int x :: st) k m n ρ σ f := fun z hz he H locs ls hs hF hP hS hl => lv_istore_n X.hx X.hb hd rfl hl.has (by rw [X.hml]; exact hi) rfl (fun ls' h' => kk z hz he H locs ls' hs hF hP hS (hL ▸ hl.put rfl hj h'))
theorem c_astore_n (X : FxC C cc nL own d) {j : Fin 4} {x : Nat} (L' : List (Option Value)) (hd : decode cc pc = .ok (.astore_n j, 1)) (hi : (j : Nat) < nL) (hj : (j : Nat) < L.length) (hL : L.set j (some (.ref x)) = L') (kk : GP C P (pc + 1) L' st k m n ρ σ f) : GP C P pc L (.ref x :: st) k m n ρ σ f := fun z hz he H locs ls hs hF hP hS hl => lv_astore_n X.hx X.hb hd rfl hl.has (by rw [X.hml]; exact hi) rfl (fun ls' h' => kk z hz he H locs ls' hs hF hP hS (hL ▸ hl.put rfl hj h'))
theorem c_iinc (X : FxC C cc nL own d) {i : Nat} {a : Int} {x : Int32} (v : Int32) (L' : List (Option Value)) (hd : decode cc pc = .ok (.iinc i a, 3)) (h : L[i]? = some (some (.int x))) (hv : x + Int32.ofInt a = v) (hi : i < nL) (hL : L.set i (some (.int v)) = L') (kk : GP C P (pc + 3) L' st k m n ρ σ f) : GP C P pc L st k m n ρ σ f := fun z hz he H locs ls hs hF hP hS hl => by
  have hm : (i, Value.int x) ∈ asc 0 L := (asc_mem L 0 i _).mpr ⟨i, by omega, h⟩
  obtain ⟨q, hq⟩ := List.getElem?_of_mem hm
  exact lv_iinc X.hx X.hb hd hl.has hq hv (by rw [X.hml]; exact hi) rfl (fun ls' h' => kk z hz he H locs ls' hs hF hP hS (hL ▸ hl.put rfl (List.getElem?_eq_some_iff.mp h).1 h'))
theorem c_imul (X : FxC C cc nL own d) {x y : Int32} (hd : decode cc pc = .ok (.imul, 1)) (kk : GP C P (pc + 1) L (.int (x * y) :: st) k m n ρ σ f) : GP C P pc L (.int y :: .int x :: st) k m n ρ σ f := fun z hz he H locs ls hs hF hP hS hl => lv_imul X.hx X.hb hd (kk z hz he H locs ls hs hF hP hS hl)
theorem c_dup (X : FxC C cc nL own d) {v : Value} (hd : decode cc pc = .ok (.dup, 1)) (hv : v.category = 1) (kk : GP C P (pc + 1) L (v :: v :: st) k m n ρ σ f) : GP C P pc L (v :: st) k m n ρ σ f := fun z hz he H locs ls hs hF hP hS hl => lv_dup X.hx X.hb hd hv (kk z hz he H locs ls hs hF hP hS hl)
theorem c_goto (X : FxC C cc nL own d) {off : Int} (tgt : Nat) (hd : decode cc pc = .ok (.goto off, 3)) (ht : (pc : Int) + off = (tgt : Int)) (kk : GP C P tgt L st k m n ρ σ f) : GP C P pc L st k m n ρ σ f := fun z hz he H locs ls hs hF hP hS hl => lv_goto X.hx X.hb hd ht (kk z hz he H locs ls hs hF hP hS hl)
theorem c_geT (X : FxC C cc nL own d) {x y : Int32} {off : Int} (tgt : Nat) (hd : decode cc pc = .ok (.if_icmp .ge off, 3)) (ht : (pc : Int) + off = (tgt : Int)) (h : y ≤ x) (kk : GP C P tgt L st k m n ρ σ f) : GP C P pc L (.int y :: .int x :: st) k m n ρ σ f := fun z hz he H locs ls hs hF hP hS hl => lv_icmp_ge X.hx X.hb hd ht (fun _ => kk z hz he H locs ls hs hF hP hS hl) (fun q => absurd h q)
theorem c_geF (X : FxC C cc nL own d) {x y : Int32} {off : Int} (tgt : Nat) (hd : decode cc pc = .ok (.if_icmp .ge off, 3)) (ht : (pc : Int) + off = (tgt : Int)) (h : ¬ y ≤ x) (kk : GP C P (pc + 3) L st k m n ρ σ f) : GP C P pc L (.int y :: .int x :: st) k m n ρ σ f := fun z hz he H locs ls hs hF hP hS hl => lv_icmp_ge X.hx X.hb hd ht (fun q => absurd q h) (fun _ => kk z hz he H locs ls hs hF hP hS hl)
theorem c_max (X : FxC C cc nL own d) {x y : Int32} {idx : Nat} (hw : Cond.methodLink own idx Lib.Math.max.name ∈ hz_wt) (hq : Cond.static Lib.Math.max.name ∈ hz_wt ∧ Cond.initialized "java/lang/Math" ∈ hz_wt ∧ Cond.code Lib.Math.max.name Lib.Math.max.code 2 (some .int) ∈ hz_wt) (h1 : 0 < d) (hro : (st.map fun v => v.category).sum ≤ 8) (hk : k ≤ C.R.cells ∧ m ≤ C.R.slots) (hd : decode cc pc = .ok (.invokestatic idx, 3)) (kk : GP C P (pc + 3) L (.int (if x < y then y else x) :: st) k m n ρ σ f) : GP C P pc L (.int y :: .int x :: st) k m n ρ σ f := fun z hz he H locs ls hs hF hP hS hl => by
  have := X.hR
  exact va_mmax X.hx X.hb hl.1.symm X.hown (X.hts _ hw) (X.hts _ hq.1) (X.hts _ hq.2.1) (X.hts _ hq.2.2) (by omega) (by omega) hk.1 hk.2 hd (kk z hz he H locs ls hs hF hP hS hl)
/-! new cells -/
def NWc (own : String) (idx ci : Nat) : Prop := ∃ (Cn : String) (T : u_T) (N : Nat) (ty : Nat → FieldType), hz_cl[ci]? = some (Cn, T, N) ∧ (∀ w ∈ u_ws Cn T N, w ∈ hz_wt) ∧ (∀ k, k < N → parseFieldDescriptor (T k).2.2.1 = some (ty k)) ∧ Cond.classLink own idx Cn ∈ hz_wt ∧ Cond.instantiable Cn N ∈ hz_wt ∧ Cond.initialized Cn ∈ hz_wt ∧ (∀ j, j < N → defaultValue (ty j) = vp_V (cg_fv (fun a => a) (fun _ => none) (fun _ => 0) 0 (hz_bs ci)) j) ∧ ci < 13 ∧ (hz_bs ci).length = N
theorem cg_fv0 (ad : Nat → Nat) : ∀ (bs : List Bool) (i : Nat), cg_fv (fun a => a) (fun _ => none) (fun _ => 0) i bs = cg_fv ad (fun _ => none) (fun _ => 0) i bs
  | [], _ => rfl
  | b :: t, i => by simp [cg_fv, cg_fv0 ad t (i + 1)]
theorem hS_grow {A : Nat → Prop} {H0 H H1 : Heap} {locs : List Loc} (hS : va_S A H0 H locs) (z1 : H.size ≤ H1.size) (o1 : ∀ q, q < H.size → H1[q]? = H[q]?) : va_S A H0 H1 locs := ⟨Nat.le_trans hS.1 z1, fun x h1 h2 => (o1 x (Nat.lt_of_lt_of_le h1 hS.1)).trans (hS.2.1 x h1 h2), hS.2.2⟩
theorem va_P.push {D : va_G} {cl : List vw_C} {ws : va_W} {H H1 : Heap} {x : Nat × va_E} (hP : va_P D cl ws H) (o1 : ∀ q, q < H.size → H1[q]? = H[q]?) (hx : va_at D cl x H1) : va_P D cl (ws ++ [x]) H1 := by
  refine (hP.kept (fun k y hy => o1 y.1 ((hP k y hy).lt))).app (fun k y hy => ?_)
  have hz : k < 1 := (List.getElem?_eq_some_iff.mp hy).1
  rw [show k = 0 by omega] at hy
  cases hy
  exact hx
theorem Fr.up {n : Nat} {ρ : Rh} {σ : Sg} (h : Fr n ρ σ) : Fr (n + 1) ρ σ := fun a ha => h a (by omega)
theorem c_new (X : FxC C cc nL own d) {idx ci N : Nat} (nw : NWc own idx ci) (hN : (hz_bs ci).length = N) (hc : k + 1 ≤ C.R.cells ∧ m + N ≤ C.R.slots) (hd : decode cc pc = .ok (.new idx, 3)) (kk : hz_kd n = ci → GP C P (pc + 3) L (.ref (C.w.ad n) :: st) (k + 1) (m + N) (n + 1) ρ σ f) : GP C P pc L st k m n ρ σ (gk n ci f) := gp_k (fun hkd z hz he H locs ls hs hF hP hS hl => by
  obtain ⟨Cn, T, N', ty, h1, h2, h3, h4, h5, h6, h7, h8, h9⟩ := nw
  have : N' = N := by omega
  subst this
  have hKn := X.hK.1 ci _ h1
  refine W_by (fun T hT XS => ?_)
  have hsz := cg_sz X hs hP hS hT XS
  refine W.newcK X.hx X.hb X.hown (X.hts _ h4) (X.hts _ h5) (X.hts _ h6) rfl hd hc.1 hc.2 hKn.2.1 hsz (fun H1 kC hkC e1 z1 o1 => ?_)
  refine kk hkd z hz he H1 locs ls (by rw [X.hL (n + 1)]; rw [X.hL n] at hs; omega) hF.up ?_ (hS_grow hS (by omega) (by rw [hsz]; exact o1)) hl
  rw [cg_push]
  refine hP.push (by rw [hsz]; exact o1) ?_
  rw [cg_eO C.w ρ σ hkd h8, (hF n (Nat.le_refl n)).1, (hF n (Nat.le_refl n)).2]
  refine ⟨_, h1, (u_born ty X.hts h2 hKn hkC e1 h3).to fun j hj => ?_⟩
  rw [h7 j hj, cg_fv0 C.w.ad])
theorem c_newa (X : FxC C cc nL own d) {i : Int32} {N : Nat} (hN : i.toNatClampNeg = N) (h0 : ¬ i < 0) (hc : k + 1 ≤ C.R.cells ∧ m + N ≤ C.R.slots) (hb : N * 4 ≤ 536870912) (ha : Cond.arrayClass .int ∈ hz_wt) (hd : decode cc pc = .ok (.newarray .int, 2)) (kk : hz_kd n = 13 → hz_ln n = N → GP C P (pc + 2) L (.ref (C.w.ad n) :: st) (k + 1) (m + N) (n + 1) ρ σ f) : GP C P pc L (.int i :: st) k m n ρ σ (gk n 13 (gl n N f)) := gp_k (fun hkd => gp_l (fun hln z hz he H locs ls hs hF hP hS hl => by
  refine W_by (fun T hT XS => ?_)
  have hsz := cg_sz X hs hP hS hT XS
  refine va_newaK (atype := .int) X.hx X.hb (X.hts _ ha) rfl hd rfl h0 hN hb hc.1 hc.2 hsz (fun H1 cA e1 z1 o1 hAr hNm => ?_)
  have hcA : cA = C.w.cI := by
    have h2 : C.s.vm.findClass ("[" ++ (FieldType.int).toString) = some C.w.cI := (X.hK.2 0 (C.w.cI, .int) rfl).2
    exact Option.some.inj (hNm.symm.trans h2)
  subst hcA
  refine kk hkd hln z hz he H1 locs ls (by rw [X.hL (n + 1)]; rw [X.hL n] at hs; omega) hF.up ?_ (hS_grow hS (by omega) (by rw [hsz]; exact o1)) hl
  rw [cg_push]
  refine hP.push (by rw [hsz]; exact o1) ?_
  rw [cg_e13 C.w ρ σ hkd, (hF n (Nat.le_refl n)).2, hln]
  exact e1))
theorem c_anew (X : FxC C cc nL own d) {i : Int32} {N idx : Nat} (hN : i.toNatClampNeg = N) (h0 : ¬ i < 0) (hc : k + 1 ≤ C.R.cells ∧ m + N ≤ C.R.slots) (hb : N * 4 ≤ 536870912) (hw : Cond.classLink own idx "LastWordHill$Scene" ∈ hz_wt) (hd : decode cc pc = .ok (.anewarray idx, 3)) (kk : hz_kd n = 14 → hz_ln n = N → GP C P (pc + 3) L (.ref (C.w.ad n) :: st) (k + 1) (m + N) (n + 1) ρ σ f) : GP C P pc L (.int i :: st) k m n ρ σ (gk n 14 (gl n N f)) := gp_k (fun hkd => gp_l (fun hln z hz he H locs ls hs hF hP hS hl => by
  subst hN
  refine W_by (fun T hT XS => ?_)
  have hsz := cg_sz X hs hP hS hT XS
  refine W.anew X.hx X.hb X.hown (X.hts _ hw) (va_AO.use X.hO) rfl hd rfl h0 hb hc.1 hc.2 (fun cA kA comp f1 f2 f3 f4 => ?_)
  generalize hH1 : H.push ({ cls := cA, slots := Array.replicate i.toNatClampNeg .null, vm := .none } : Cell) = H1
  have z1 : H1.size = H.size + 1 := by rw [← hH1, Array.size_push]
  have e1 : H1[H.size]? = some (arrV cA i.toNatClampNeg (fun _ => .null)) := by rw [← hH1, Array.getElem?_push_size, ← arrV_new]
  have o1 : ∀ q : Nat, q < H.size → H1[q]? = H[q]? := fun q hq => by rw [← hH1, Array.getElem?_push, if_neg (Nat.ne_of_lt hq)]
  have hcA : cA = C.w.cS := by
    obtain ⟨kA', comp', g1, g2, g3, g4⟩ := (X.hK.2 1 (C.w.cS, .object "LastWordHill$Scene") rfl).2
    exact Option.some.inj (f1.symm.trans g4)
  subst hcA
  rw [hsz]
  refine kk hkd hln z hz he H1 locs ls (by rw [X.hL (n + 1)]; rw [X.hL n] at hs; omega) hF.up ?_ (hS_grow hS (by omega) o1) hl
  rw [cg_push]
  refine hP.push o1 ?_
  rw [cg_e14 C.w ρ σ hkd, (hF n (Nat.le_refl n)).1, hln]
  rw [hsz] at e1
  exact e1))
/-! fields -/
theorem c_putI (X : FxC C cc nL own d) {idx ci j o : Nat} {x : Int32} (fl : FLk own idx ci j) (hb : (hz_bs ci)[j]? = some false) (fp : FLp ci j .int) (ho : hz_kd o = ci) (hd : decode cc pc = .ok (.putfield idx, 3)) {kf : Sg → Option Gt} (kk : ∀ τ, GP C P (pc + 3) L st k m n ρ τ (kf τ)) : GP C P pc L (.int x :: .ref (C.w.ad o) :: st) k m n ρ σ (glt o n (bnd (pt σ o j x) kf)) := gp_lt (fun hon z hz he H locs ls hs hF hP hS hl => by
  obtain ⟨Cn, T, N, hc, hk, hw, hin, hci, hbl⟩ := fl
  obtain ⟨Cn', T', N', ty0, hc', hty, hnm, hfin, hpd⟩ := fp
  cases hc.symm.trans hc'
  have hat := cg_at C.w ρ σ hon
  rw [cg_eO C.w ρ σ ho hci] at hat
  refine va_put X.hx X.hb X.hts hin ty0 hty hnm X.hown X.hK hP (X.hD n ρ σ) hS o hat hc j hk (X.hts _ hw) (fun x h => h) hfin hpd rfl rfl (by rw [cg_fv_len, hbl]; exact hk) hd (fun H1 locs1 hP1 _ hS1 => ?_)
  have hF1 : Fr n ρ (pt σ o j x) := fun a ha => ⟨(hF a ha).1, by rw [pt_ne σ j x (by omega)]; exact (hF a ha).2⟩
  rw [cg_fv_setI hb, ← pt_row, ← cg_eO C.w ρ (pt σ o j x) ho hci, cg_set hon (fun _ _ => rfl) (fun a ha => pt_ne σ j x ha)] at hP1
  exact kk (pt σ o j x) z hz he H1 locs1 ls hs hF1 hP1 hS1 hl)
/-- a final field's tables -/
def FLf (own : String) (ci j : Nat) (ty : FieldType) : Prop := ∃ (Cn : String) (T : u_T) (N : Nat) (ty0 : Nat → FieldType), hz_cl[ci]? = some (Cn, T, N) ∧ (∀ k, k < N → parseFieldDescriptor (T k).2.2.1 = some (ty0 k)) ∧ (∀ a, a < N → ∀ b, b < N → a ≠ b → (T a).2.1 ≠ (T b).2.1) ∧ (T j).2.2.2 = true ∧ (T j).1 = own ∧ parseFieldDescriptor (T j).2.2.1 = some ty
theorem c_putIF (X : FxC C cc nL own d) (hin : C.meth.name = "<init>") {idx ci j o : Nat} {x : Int32} (fl : FLk own idx ci j) (hb : (hz_bs ci)[j]? = some false) (fp : FLf own ci j .int) (ho : hz_kd o = ci) (hd : decode cc pc = .ok (.putfield idx, 3)) {kf : Sg → Option Gt} (kk : ∀ τ, GP C P (pc + 3) L st k m n ρ τ (kf τ)) : GP C P pc L (.int x :: .ref (C.w.ad o) :: st) k m n ρ σ (glt o n (bnd (pt σ o j x) kf)) := gp_lt (fun hon z hz he H locs ls hs hF hP hS hl => by
  obtain ⟨Cn, T, N, hc, hk, hw, hwi, hci, hbl⟩ := fl
  obtain ⟨Cn', T', N', ty0, hc', hty, hnm, hfin, hdc, hpd⟩ := fp
  cases hc.symm.trans hc'
  have hat := cg_at C.w ρ σ hon
  rw [cg_eO C.w ρ σ ho hci] at hat
  refine va_putF X.hx X.hb X.hts hwi ty0 hty hnm X.hown X.hK hP (X.hD n ρ σ) hS o hat hc j hk (X.hts _ hw) (fun x h => h) hfin hin hdc hpd rfl rfl (by rw [cg_fv_len, hbl]; exact hk) hd (fun H1 locs1 hP1 _ hS1 => ?_)
  have hF1 : Fr n ρ (pt σ o j x) := fun a ha => ⟨(hF a ha).1, by rw [pt_ne σ j x (by omega)]; exact (hF a ha).2⟩
  rw [cg_fv_setI hb, ← pt_row, ← cg_eO C.w ρ (pt σ o j x) ho hci, cg_set hon (fun _ _ => rfl) (fun a ha => pt_ne σ j x ha)] at hP1
  exact kk (pt σ o j x) z hz he H1 locs1 ls hs hF1 hP1 hS1 hl)
theorem c_putRF (X : FxC C cc nL own d) (hin : C.meth.name = "<init>") {idx ci j o q : Nat} {ty : FieldType} (fl : FLk own idx ci j) (hb : (hz_bs ci)[j]? = some true) (fp : FLf own ci j ty) (ht : narrow ty (.ref 0) = .ref 0 ∧ fits ty (.ref 0) = true ∧ ∀ a, narrow ty (.ref a) = .ref a ∧ fits ty (.ref a) = true) (ho : hz_kd o = ci) (hd : decode cc pc = .ok (.putfield idx, 3)) {kf : Rh → Option Gt} (kk : ∀ r, GP C P (pc + 3) L st k m n r σ (kf r)) : GP C P pc L (.ref (C.w.ad q) :: .ref (C.w.ad o) :: st) k m n ρ σ (glt o n (bnd (rp ρ o j q) kf)) := gp_lt (fun hon z hz he H locs ls hs hF hP hS hl => by
  obtain ⟨Cn, T, N, hc, hk, hw, hwi, hci, hbl⟩ := fl
  obtain ⟨Cn', T', N', ty0, hc', hty, hnm, hfin, hdc, hpd⟩ := fp
  cases hc.symm.trans hc'
  have hat := cg_at C.w ρ σ hon
  rw [cg_eO C.w ρ σ ho hci] at hat
  refine va_putF X.hx X.hb X.hts hwi ty0 hty hnm X.hown X.hK hP (X.hD n ρ σ) hS o hat hc j hk (X.hts _ hw) (fun x h => h) hfin hin hdc hpd (ht.2.2 _).1 (ht.2.2 _).2 (by rw [cg_fv_len, hbl]; exact hk) hd (fun H1 locs1 hP1 _ hS1 => ?_)
  have hF1 : Fr n (rp ρ o j q) σ := fun a ha => ⟨by rw [rp_ne ρ j q (by omega)]; exact (hF a ha).1, (hF a ha).2⟩
  rw [cg_fv_setR hb, ← rp_row, ← cg_eO C.w (rp ρ o j q) σ ho hci, cg_set hon (fun a ha => rp_ne ρ j q ha) (fun _ _ => rfl)] at hP1
  exact kk (rp ρ o j q) z hz he H1 locs1 ls hs hF1 hP1 hS1 hl)
theorem c_getI (X : FxC C cc nL own d) {idx ci j o : Nat} (fl : FLk own idx ci j) (hb : (hz_bs ci)[j]? = some false) (ho : hz_kd o = ci) (hd : decode cc pc = .ok (.getfield idx, 3)) (kk : GP C P (pc + 3) L (.int (σ o j) :: st) k m n ρ σ f) : GP C P pc L (.ref (C.w.ad o) :: st) k m n ρ σ (glt o n f) := gp_lt (fun hon z hz he H locs ls hs hF hP hS hl => by
  obtain ⟨Cn, T, N, hc, hk, hw, hin, hci, hbl⟩ := fl
  have hat := cg_at C.w ρ σ hon
  rw [cg_eO C.w ρ σ ho hci] at hat
  refine va_get X.hx X.hb X.hts hin X.hown X.hK hP o hat hc j hk (X.hts _ hw) (fun x h => h) (v := .int (σ o j)) ?_ hd (kk z hz he H locs ls hs hF hP hS hl)
  rw [cg_fv_at, hb]
  simp)
def grf {R : Type} (r : Option Nat) (q : Nat) (f : Option R) : Option R := if r = some q then f else none
theorem c_getR (X : FxC C cc nL own d) {idx ci j o q : Nat} (fl : FLk own idx ci j) (hb : (hz_bs ci)[j]? = some true) (ho : hz_kd o = ci) (hd : decode cc pc = .ok (.getfield idx, 3)) (kk : GP C P (pc + 3) L (.ref (C.w.ad q) :: st) k m n ρ σ f) : GP C P pc L (.ref (C.w.ad o) :: st) k m n ρ σ (glt o n (grf (ρ o j) q f)) := gp_lt (fun hon => gp_ite (fun hq z hz he H locs ls hs hF hP hS hl => by
  obtain ⟨Cn, T, N, hc, hk, hw, hin, hci, hbl⟩ := fl
  have hat := cg_at C.w ρ σ hon
  rw [cg_eO C.w ρ σ ho hci] at hat
  refine va_get X.hx X.hb X.hts hin X.hown X.hK hP o hat hc j hk (X.hts _ hw) (fun x h => h) (v := .ref (C.w.ad q)) ?_ hd (kk z hz he H locs ls hs hF hP hS hl)
  rw [cg_fv_at, hb]
  simp [hq, va_rf]))
theorem c_iast (X : FxC C cc nL own d) {o N : Nat} {i x : Int32} (ho : hz_kd o = 13) (hn : hz_ln o = N) (hin : ¬ (i < 0 ∨ N ≤ i.toNatClampNeg)) (hd : decode cc pc = .ok (.iastore, 1)) {kf : Sg → Option Gt} (kk : ∀ τ, GP C P (pc + 1) L st k m n ρ τ (kf τ)) : GP C P pc L (.int x :: .int i :: .ref (C.w.ad o) :: st) k m n ρ σ (glt o n (bnd (pt σ o i.toNatClampNeg x) kf)) := gp_lt (fun hon z hz he H locs ls hs hF hP hS hl => by
  have hat := cg_at C.w ρ σ hon
  rw [cg_e13 C.w ρ σ ho, hn] at hat
  refine va_iast X.hx X.hb X.hK hP (X.hD n ρ σ) hS o 0 hat rfl hin hd (fun H1 locs1 hP1 _ hS1 => ?_)
  have hF1 : Fr n ρ (pt σ o i.toNatClampNeg x) := fun a ha => ⟨(hF a ha).1, by rw [pt_ne σ _ x (by omega)]; exact (hF a ha).2⟩
  have : upd (σ o) i.toNatClampNeg x = pt σ o i.toNatClampNeg x o := by
    rw [pt_row]
    funext j
    simp [upd]
  rw [this, ← hn, ← cg_e13 C.w ρ (pt σ o i.toNatClampNeg x) ho, cg_set hon (fun _ _ => rfl) (fun a ha => pt_ne σ _ x ha)] at hP1
  exact kk _ z hz he H1 locs1 ls hs hF1 hP1 hS1 hl)
theorem c_aast (X : FxC C cc nL own d) {o q N : Nat} {i : Int32} (ho : hz_kd o = 14) (hn : hz_ln o = N) (hq : hz_kd q = 5) (hin : ¬ (i < 0 ∨ N ≤ i.toNatClampNeg)) (hd : decode cc pc = .ok (.aastore, 1)) {kf : Rh → Option Gt} (kk : ∀ r, GP C P (pc + 1) L st k m n r σ (kf r)) : GP C P pc L (.ref (C.w.ad q) :: .int i :: .ref (C.w.ad o) :: st) k m n ρ σ (glt o n (glt q n (bnd (rp ρ o i.toNatClampNeg q) kf))) := gp_lt (fun hon => gp_lt (fun hqn z hz he H locs ls hs hF hP hS hl => by
  have hat := cg_at C.w ρ σ hon
  have hatq := cg_at C.w ρ σ hqn
  rw [cg_e14 C.w ρ σ ho, hn] at hat
  rw [cg_eO C.w ρ σ hq (by decide)] at hatq
  refine va_astq X.hx X.hb X.hK hP (X.hD n ρ σ) hS o 1 q 5 (r := (nR5, nT5, 13)) hat rfl hatq rfl hin hd (fun H1 locs1 hP1 _ hS1 => ?_)
  have hF1 : Fr n (rp ρ o i.toNatClampNeg q) σ := fun a ha => ⟨by rw [rp_ne ρ _ q (by omega)]; exact (hF a ha).1, (hF a ha).2⟩
  have : va_up (fun j => (ρ o j).map C.w.ad) i.toNatClampNeg (some (C.w.ad q)) = fun j => (rp ρ o i.toNatClampNeg q o j).map C.w.ad := by
    funext j
    by_cases hj : j = i.toNatClampNeg
    · subst hj
      simp [va_up, rp]
    · simp [va_up, rp, hj]
  rw [this, ← hn, ← cg_e14 C.w (rp ρ o i.toNatClampNeg q) σ ho, cg_set hon (fun a ha => rp_ne ρ _ q ha) (fun _ _ => rfl)] at hP1
  exact kk _ z hz he H1 locs1 ls hs hF1 hP1 hS1 hl))
theorem c_obj (X : FxC C cc nL own d) {q idx : Nat} (hw : Cond.methodLink own idx Lib.objectInit ∈ hz_wt) (ho : Cond.instanceMethod Lib.objectInit ∈ hz_wt ∧ Cond.code Lib.objectInit ⟨#[0xb1]⟩ 1 none ∈ hz_wt) (h1 : 0 < d) (hro : (st.map fun v => v.category).sum ≤ 8) (hd : decode cc pc = .ok (.invokespecial idx, 3)) (kk : GP C P (pc + 3) L st k m n ρ σ f) : GP C P pc L (.ref q :: st) k m n ρ σ f := fun z hz he H locs ls hs hF hP hS hl => by
  have hR := X.hR
  have h2 := lv_room (m := C.m) (pc := pc) (ls := ls) (rest := .ref q :: st) hro
  refine W.objInit X.hx X.hb X.hown (X.hts _ hw) (X.hts _ ho.1) (X.hts _ ho.2) (g := F0 C.m pc ls (.ref q :: st)) rfl hl.1 rfl hd (by omega) ?_ (kk z hz he H locs ls hs hF hP hS hl)
  omega
/-! calls of constructors -/
variable {y : MethodName} {cy : ByteArray} {mL a dy idx mc ms : Nat} {as : List Value} {fy : Option Gt}
theorem c_aft (X : FxC C cc nL own d) {z' : Gt} {av : Array Value} {H : Heap} {locs : List Loc} {ls : Array Slot} (hs : C.s.heap.size + k = C.w.ad n) (hz : z'.1 = n + mc) (hS : va_S C.A C.s.heap H locs) (hl : LV ls C.c.maxLocals L)
    (hr : va_Run C.p C.l C.e C.R C.s C.m C.args C.below C.meth C.c H locs k m mc ms (F0 C.m pc ls st0) rest (QxG C.w z' av) (cA0 C.w)) (kk : GC C (pc + 3) L rest (k + mc) (m + ms) z'.1 z'.2.1 z'.2.2) :
    W C.p C.l C.e C.R C.s C.m C.args C.below C.meth C.c H locs k m C.Q (F0 C.m pc ls st0) := by
  intro T hT XS
  obtain ⟨v, st₀, t, T', Lc, h0, X', hL, e1, e2, ⟨hv, hWd, hF⟩, stp⟩ := hr T hT XS
  have hv : v = none := Outcome.returned.inj hv
  subst hv
  have hP1 : va_P C.w.D hz_cl (cg_w C.w z'.1 z'.2.1 z'.2.2) T'.heap := by rw [e1]; exact hWd.2.1
  have hS1 : va_S C.A C.s.heap T'.heap (locs ++ Lc) := by
    refine ⟨?_, fun q h1 h2 => ?_, fun q hq => ?_⟩
    · rw [e1]
      exact Nat.le_trans hS.1 (by rw [← h0]; exact hF.1)
    · rw [e1, hF.2 q (by rw [h0]; exact Nat.lt_of_lt_of_le h1 hS.1) (fun z => h2 (by rw [X.hA]; exact z)), h0]
      exact hS.2.1 q h1 h2
    · rcases List.mem_append.mp hq with h | h
      · exact hS.2.2 q h
      · rw [X.hA]; exact hL q h
  obtain ⟨t2, a1, b1⟩ := kk T'.heap (locs ++ Lc) ls (by rw [hz, X.hL (n + mc)]; rw [X.hL n] at hs; omega) hWd.2.2.2.2.1 hP1 hS1 hl T' rfl X'
  exact ⟨t2, stp t2 a1, b1⟩
theorem c_pre (X : FxC C cc nL own d) {H : Heap} (av : List Value) (hsz : H.size = C.w.ad n) (hF : Fr n ρ σ) (hP : va_P C.w.D hz_cl (cg_w C.w n ρ σ) H) : PreS C.s H (va_Pc av (WdG C.w (n, ρ, σ))) av :=
  ⟨fun a U g mk h => ⟨h.1, h.2.1, h.2.2.1, va_K.moved (u := U) (U := U.calling g mk a) (Vm.Alike.refl U.vm) h.2.2.2.1, h.2.2.2.2.1, h.2.2.2.2.2.1, va_AO.moved (u := U) (U := U.calling g mk a) (Vm.Alike.refl U.vm) h.2.2.2.2.2.2.1, hz_N.same (u := U) (U := U.calling g mk a) rfl h.2.2.2.2.2.2.2⟩, fun U hU hW => ⟨rfl, by rw [hU]; exact hsz, by rw [hU]; exact hP, va_K.moved hW.alike X.hK, X.hL, hF, va_AO.moved hW.alike X.hO, X.hNt.warm hW⟩⟩
theorem c_call (X : FxC C cc nL own d) {o : Nat} (mm : MMc y cy mL none a) (hi : Cond.instanceMethod y ∈ hz_wt) (hy : y.name = "<init>") (ml : Cond.methodLink own idx y ∈ hz_wt) (hM : OkC C.l C.w y cy mL dy mc ms (.ref (C.w.ad o) :: as) (n, ρ, σ) fy) (hn : as.length = a) (hdd : dy < d) (hst : st0 = as.reverse ++ .ref (C.w.ad o) :: rest) (hro : (rest.map fun v => v.category).sum ≤ 8) (hc : k + mc ≤ C.R.cells ∧ m + ms ≤ C.R.slots) (hd : decode cc pc = .ok (.invokespecial idx, 3))
    {kf : Nat → Rh → Sg → Option Gt} (kk : ∀ r τ, GP C P (pc + 3) L rest (k + mc) (m + ms) (n + mc) r τ (kf (n + mc) r τ)) : GP C P pc L st0 k m n ρ σ (bg fy (n + mc) kf) := by
  intro z hz he H locs ls hs hF hP hS hl
  obtain ⟨u, hu, hk⟩ := Option.bind_eq_some_iff.mp hz
  refine W_by (fun T hT XS => ?_)
  have hsz := cg_sz X hs hP hS hT XS
  by_cases hun : u.1 = n + mc
  · rw [if_pos hun, hun] at hk
    obtain ⟨h1, h2, h3, h4⟩ := mm
    have hR := X.hR
    have cb : CallB C.R C.s C.args own idx y cy mL none (Cond.code y cy mL none :: hz_wt) (rmC dy mc ms) mc ms a := callB_of a X.hts (hz_good h1) rfl rfl rfl (X.hts _ h2) (X.hts _ ml) h3 ⟨by show dy + 1 ≤ C.R.frames; omega, by show 8 + (mL + 11) + 100 * dy ≤ C.R.locals; omega⟩
    exact c_aft X hs hun hS hl (va_runI (As := as) (rest := rest) ⟨X.hx, X.hb, X.hml, X.hown, X.hts⟩ (hM u hu) ⟨cb, hy, X.hts _ hi⟩ (c_pre X (.ref (C.w.ad o) :: as) hsz hF hP) rfl hn (hl.1.trans X.hml) hst (lv_room hro) hd hc) (by rw [hun]; exact kk _ _ z hk he)
  · rw [if_neg hun] at hk
    cases hk
theorem c_nest (X : FxC C cc nL own d) {o : Nat} {host : String} (mm : MMc y cy mL none a) (hi : Cond.instanceMethod y ∈ hz_wt) (hy : y.name = "<init>") (ml : Cond.methodLinkNest own idx y host ∈ hz_nt) (hM : OkC C.l C.w y cy mL dy mc ms (.ref (C.w.ad o) :: as) (n, ρ, σ) fy) (hn : as.length = a) (hdd : dy < d) (hst : st0 = as.reverse ++ .ref (C.w.ad o) :: rest) (hro : (rest.map fun v => v.category).sum ≤ 8) (hc : k + mc ≤ C.R.cells ∧ m + ms ≤ C.R.slots) (hd : decode cc pc = .ok (.invokespecial idx, 3))
    {kf : Nat → Rh → Sg → Option Gt} (kk : ∀ r τ, GP C P (pc + 3) L rest (k + mc) (m + ms) (n + mc) r τ (kf (n + mc) r τ)) : GP C P pc L st0 k m n ρ σ (bg fy (n + mc) kf) := by
  intro z hz he H locs ls hs hF hP hS hl
  obtain ⟨u, hu, hk⟩ := Option.bind_eq_some_iff.mp hz
  refine W_by (fun T hT XS => ?_)
  have hsz := cg_sz X hs hP hS hT XS
  by_cases hun : u.1 = n + mc
  · rw [if_pos hun, hun] at hk
    obtain ⟨h1, h2, h3, h4⟩ := mm
    have hR := X.hR
    have cb : va_CN C.R C.s C.args own idx y host cy mL none (Cond.code y cy mL none :: hz_wt) (rmC dy mc ms) mc ms a := va_cnB a X.hts (hz_good h1) rfl rfl rfl (X.hNt _ ml) (X.hts _ h2) h3 ⟨by show dy + 1 ≤ C.R.frames; omega, by show 8 + (mL + 11) + 100 * dy ≤ C.R.locals; omega⟩
    exact c_aft X hs hun hS hl (va_runIN (As := as) (rest := rest) ⟨X.hx, X.hb, X.hml, X.hown, X.hts⟩ (hM u hu) ⟨cb, hy, X.hts _ hi⟩ (c_pre X (.ref (C.w.ad o) :: as) hsz hF hP) rfl hn (hl.1.trans X.hml) hst (lv_room hro) hd hc) (by rw [hun]; exact kk _ _ z hk he)
  · rw [if_neg hun] at hk
    cases hk
/-- a constructor's own end: k and m are what its contract says -/
def ExC (C : Cx) (z : Gt) (mc ms : Nat) : Prop := C.Q = MQ C.below (QxG C.w z) C.args C.s mc ms (cA0 C.w) ∧ C.meth.sig.returnType = none ∧ C.meth.locks = false
theorem c_ret (X : FxC C cc nL own d) {z0 : Gt} {mc ms : Nat} (E : ExC C z0 mc ms) (hk : k = mc) (hm : m = ms) (hd : decode cc pc = .ok (.return_, 1)) : GP C (fun z => z = z0) pc L [] k m n ρ σ (some (n, ρ, σ)) := by
  intro z hz he H locs ls hs hF hP hS hl
  cases hz
  subst he
  refine W_by (fun T hT XS => ?_)
  subst hk
  subst hm
  obtain ⟨h1, h2, h3⟩ := E
  have hsz := cg_sz X hs hP hS hT XS
  rw [h1]
  rw [X.hA] at hS
  refine W.vret X.hx X.hb h2 (fun t ht hW => ⟨rfl, ⟨by rw [ht]; exact hsz, by rw [ht]; exact hP, va_K.moved hW.alike X.hK, X.hL, hF, va_AO.moved hW.alike X.hO, X.hNt.warm hW⟩, hS.F ht⟩) hS.2.2 hd h3
end CROWS
theorem okc_in {y : MethodName} {cc : ByteArray} {maxL d mc ms : Nat} {av : WC → List Value} {z0 : Gt} {f : Option Gt} (own : String) (ho : y.cls = own) (hy : plainFor y = true) (hn0 : y.name = "<init>") (hc : ∀ w, cat1 (av w) = true) (hn : ∀ w, (av w).length ≤ maxL)
    (body : ∀ (C : Cx) (z : Gt), FxC C cc maxL own d → C.R = rmC d mc ms → C.meth.name = "<init>" → ExC C z mc ms → GP C (fun q => q = z) 0 (Lof maxL (av C.w)) [] 0 0 z0.1 z0.2.1 z0.2.2 f) : ∀ (l : Launch) (w : WC), OkC l w y cc maxL d mc ms (av w) z0 f := by
  subst ho
  intro l w z hz
  refine va_MetF (cc := cc) (maxL := maxL) (ret := none) hy rfl ?_
  intro p e s m args below meth c s₁ B hml hv
  obtain ⟨rfl, hW⟩ := hv
  have hcat : ∀ v ∈ av w, v.category = 1 := fun v hv => by simpa using List.all_eq_true.mp (hc w) v hv
  have hts : ∀ q ∈ hz_wt, q.before (av w).toArray s = true := fun q hq => atoms_spec (ws := Cond.code y cc maxL none :: hz_wt) B.pre q (List.mem_cons_of_mem _ hq)
  have hown : s.vm.findClass y.cls = some m.cls := findClass_of_methodNamed B.named
  have hin : meth.name = "<init>" := by rw [(name_of_methodNamed B.named B.method).1]; exact hn0
  have X : FxC (p, l, e, rmC d mc ms, s, m, (av w).toArray, below, meth, c, w, none, (fun _ _ => 0), 0, 0, cA0 w, MQ below (QxG w z) (av w).toArray s mc ms (cA0 w)) cc maxL y.cls d := ⟨B.exec, B.bytes, hml, hown, hts, ⟨Nat.le_refl d, Nat.le_refl _⟩, hW.2.2.1, hW.2.2.2.1, hW.2.2.2.2.2.1, rfl, by rw [hW.1, hW.2.2.2.1 z0.1]; exact Nat.le_add_right _ _, hW.2.2.2.2.2.2⟩
  have hl := lv_entry (av w) (n := maxL) (by rw [lg_sl_len _ hcat]; exact hn w)
  rw [lg_entry_eq]
  refine body _ z X rfl hin ⟨rfl, B.returns, B.notSynchronized⟩ z hz rfl s.heap [] _ hW.1 hW.2.2.2.2.1 hW.2.1 va_S.rf ⟨by rw [hl.1]; exact hml.symm, hl.2.1, fun i v hv => ?_⟩
  have hiv : (av w)[i]? = some v := by
    unfold Lof at hv
    by_cases hi : i < (av w).length
    · rw [List.getElem?_append_left (by simpa using hi), List.getElem?_map] at hv
      cases hq : (av w)[i]? with
      | none => rw [hq] at hv; cases hv
      | some q => rw [hq] at hv; cases hv; rfl
    · rw [List.getElem?_append_right (by simpa using hi)] at hv
      have := List.mem_of_getElem? hv
      simp at this
  have hm := lv_args_mem (av w) 0 i v hcat hiv
  rw [Nat.zero_add] at hm
  exact ⟨hl.2.2 (i, v) hm, hcat v (List.mem_of_getElem? hiv)⟩
