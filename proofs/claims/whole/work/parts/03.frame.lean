/-! the frame: a method's walk over ONE fixed world of int slots, as a function of the state -/
/-- all int slots: by object number and slot (or place in the array) -/
abbrev Sg : Type := Nat → Nat → Int32
abbrev ix (i : Int32) : Nat := i.toNatClampNeg
def pt (σ : Sg) (o k : Nat) (v : Int32) : Sg := fun q j => if q = o then (if j = k then v else σ q j) else σ q j
/-- the constants' world: addresses of the objects, class numbers of int[] and Scene[], the classes and slots, LOWEST, HIGHEST, the five texts and their bytes -/
abbrev WC : Type := (Nat → Nat) × ClassId × ClassId × va_G × Nat × Nat × (Nat → Nat) × (Nat → Nat) × Option Nat
abbrev WC.ad (w : WC) : Nat → Nat := w.1
abbrev WC.cI (w : WC) : ClassId := w.2.1
abbrev WC.cS (w : WC) : ClassId := w.2.2.1
abbrev WC.D (w : WC) : va_G := w.2.2.2.1
abbrev WC.lo (w : WC) : Nat := w.2.2.2.2.1
abbrev WC.hi (w : WC) : Nat := w.2.2.2.2.2.1
abbrev WC.aK (w : WC) : Nat → Nat := w.2.2.2.2.2.2.1
abbrev WC.aV (w : WC) : Nat → Nat := w.2.2.2.2.2.2.2.1
abbrev WC.fm (w : WC) : Option Nat := w.2.2.2.2.2.2.2.2
def hz_fv (ad : Nat → Nat) (r : Nat → Nat) (s : Nat → Int32) : Nat → List Bool → List Value
  | _, [] => []
  | j, b :: t => (if b = true then Value.ref (ad (r j)) else Value.int (s j)) :: hz_fv ad r s (j + 1) t
def hz_ce (w : WC) (σ : Sg) (o : Nat) : va_E :=
  if hz_kd o = 13 then .inl (w.cI, hz_ln o, .inl (σ o))
  else if hz_kd o = 14 then .inl (w.cS, hz_ln o, .inr (.inr (.inr (.inr (fun i => some (w.ad (hz_rf o i)))))))
  else .inr (hz_kd o, hz_fv w.ad (hz_rf o) (σ o) 0 (hz_bs (hz_kd o)))
def hz_wl (w : WC) (σ : Sg) : va_W := (List.range hz_NO).map fun o => (w.ad o, hz_ce w σ o)
def hz_A (w : WC) : Nat → Prop := fun q => ∃ o, o < hz_NO ∧ q = w.ad o
def hz_Inj (w : WC) : Prop := ∀ i j, i < hz_NO → j < hz_NO → w.ad i = w.ad j → i = j
abbrev hz_ty (w : WC) : List (ClassId × FieldType) := [(w.cI, .int), (w.cS, .object "LastWordHill$Scene")]
theorem hz_wl_at (w : WC) (σ : Sg) {o : Nat} (h : o < hz_NO) : (hz_wl w σ)[o]? = some (w.ad o, hz_ce w σ o) := by
  simp [hz_wl, List.getElem?_map, h]
theorem hz_kd_lt {o k : Nat} (h : hz_kd o = k) (hk : k < 99) : o < hz_NO := by
  rcases Nat.lt_or_ge o hz_NO with q | q
  · exact q
  · have : hz_kdL.length = 142 := by decide +kernel
    have hn : hz_kdL[o]? = none := List.getElem?_eq_none (by rw [this]; exact q)
    simp [hz_kd, List.getD, hn] at h
    omega
theorem hz_D (w : WC) (σ : Sg) (h : hz_Inj w) : va_D (hz_A w) (hz_wl w σ) := by
  have key : ∀ (k : Nat) (q : Nat × va_E), (hz_wl w σ)[k]? = some q → k < hz_NO ∧ q.1 = w.ad k := by
    intro k q hk
    have hl : k < hz_NO := by
      have := (List.getElem?_eq_some_iff.mp hk).1
      simpa [hz_wl] using this
    rw [hz_wl_at w σ hl] at hk
    cases hk
    exact ⟨hl, rfl⟩
  refine ⟨fun i j p q hi hj e => ?_, fun k q hk => ?_⟩
  · obtain ⟨a1, a2⟩ := key i p hi
    obtain ⟨b1, b2⟩ := key j q hj
    exact h i j a1 b1 (by rw [← a2, ← b2]; exact e)
  · obtain ⟨a1, a2⟩ := key k q hk
    exact ⟨k, a1, a2⟩
theorem hz_fv_at {ad r : Nat → Nat} {s : Nat → Int32} : ∀ (bs : List Bool) (i k : Nat), (hz_fv ad r s i bs)[k]? = (bs[k]?).map fun b => if b = true then Value.ref (ad (r (i + k))) else Value.int (s (i + k))
  | [], i, k => by simp [hz_fv]
  | b :: t, i, k => by
    cases k with
    | zero => simp [hz_fv]
    | succ k =>
      simp only [hz_fv, List.getElem?_cons_succ]
      rw [hz_fv_at t (i + 1) k]
      have : i + 1 + k = i + (k + 1) := by omega
      rw [this]
theorem hz_fv_len {ad r : Nat → Nat} {s : Nat → Int32} : ∀ (bs : List Bool) (i : Nat), (hz_fv ad r s i bs).length = bs.length
  | [], i => rfl
  | b :: t, i => by simp [hz_fv, hz_fv_len t (i + 1)]
theorem hz_fv_set {ad r : Nat → Nat} {s : Nat → Int32} {bs : List Bool} {k : Nat} {v : Int32} (hb : bs[k]? = some false) : (hz_fv ad r s 0 bs).set k (.int v) = hz_fv ad r (fun j => if j = k then v else s j) 0 bs := by
  apply List.ext_getElem?
  intro j
  by_cases hj : j = k
  · subst hj
    have hl : j < (hz_fv ad r s 0 bs).length := by
      rw [hz_fv_len]
      exact (List.getElem?_eq_some_iff.mp hb).1
    rw [List.getElem?_set_self hl, hz_fv_at, hb]
    simp
  · rw [List.getElem?_set_ne (Ne.symm hj), hz_fv_at, hz_fv_at]
    simp [hj]
theorem pt_row (σ : Sg) (o k : Nat) (v : Int32) : pt σ o k v o = fun j => if j = k then v else σ o j := by
  funext j
  simp [pt]
theorem pt_ne (σ : Sg) {o q : Nat} (k : Nat) (v : Int32) (h : q ≠ o) : pt σ o k v q = σ q := by
  funext j
  simp [pt, h]
theorem hz_set (w : WC) (σ : Sg) {o : Nat} (h : o < hz_NO) (k : Nat) (v : Int32) : (hz_wl w σ).set o (w.ad o, hz_ce w (pt σ o k v) o) = hz_wl w (pt σ o k v) := by
  apply List.ext_getElem?
  intro j
  by_cases hj : j = o
  · subst hj
    rw [List.getElem?_set_self (by simpa [hz_wl] using h), hz_wl_at w _ h]
  · rw [List.getElem?_set_ne (Ne.symm hj)]
    by_cases hl : j < hz_NO
    · rw [hz_wl_at w _ hl, hz_wl_at w _ hl]
      simp only [hz_ce, pt_ne σ k v hj]
    · have hn : ∀ τ : Sg, (hz_wl w τ)[j]? = none := fun τ => List.getElem?_eq_none (by simp [hz_wl]; omega)
      rw [hn, hn]
theorem hz_ce13 (w : WC) (σ : Sg) {o : Nat} (h : hz_kd o = 13) : hz_ce w σ o = .inl (w.cI, hz_ln o, .inl (σ o)) := by simp [hz_ce, h]
theorem hz_ce14 (w : WC) (σ : Sg) {o : Nat} (h : hz_kd o = 14) : hz_ce w σ o = .inl (w.cS, hz_ln o, .inr (.inr (.inr (.inr (fun i => some (w.ad (hz_rf o i))))))) := by simp [hz_ce, h]
theorem hz_ceO (w : WC) (σ : Sg) {o ci : Nat} (h : hz_kd o = ci) (hc : ci < 13) : hz_ce w σ o = .inr (ci, hz_fv w.ad (hz_rf o) (σ o) 0 (hz_bs ci)) := by
  have h1 : ¬ hz_kd o = 13 := by omega
  have h2 : ¬ hz_kd o = 14 := by omega
  rw [hz_ce, if_neg h1, if_neg h2, h]
/-! the texts -/
def nJS : Nat := 5
def lenJS : List Nat := [85, 17, 8, 12, 10]
def bytJS : List (List Int32) := [[99, 108, 105, 109, 98, 115, 32, 116, 105, 114, 101, 115, 32, 115, 97, 121, 115, 32, 119, 104, 101, 110, 32, 111, 114, 32, 97, 110, 100, 32, 110, 111, 116, 32, 118, 111, 105, 99, 101, 32, 108, 101, 103, 115, 32, 112, 97, 114, 116, 121, 32, 98, 114, 101, 97, 116, 104, 32, 104, 101, 105, 103, 104, 116, 32, 119, 111, 114, 100, 32, 108, 101, 102, 116, 32, 111, 116, 104, 101, 114, 115, 32, 100, 97, 121], [111, 110, 32, 112, 101, 114, 115, 111, 110, 32, 119, 105, 116, 104, 32, 97, 116], [102, 114, 111, 109, 32, 115, 101, 116], [119, 111, 114, 100, 32, 97, 110, 115, 119, 101, 114, 115], [59, 43, 45, 42, 47, 40, 41, 60, 61, 62]]
def ownJS : List (String × Nat × String) := [("LastWordHill$Reader", 73, "climbs tires says when or and not voice legs party breath height word left others day"), ("LastWordHill$Reader", 75, "on person with at"), ("LastWordHill$Reader", 77, "from set"), ("LastWordHill$Reader", 79, "word answers"), ("LastWordHill$Tokens", 67, ";+-*/()<=>")]
def loV : List Int32 := [0, 1, 0, 0, 0]
def hiV : List Int32 := [9, 9, 3, 99, 99]
/-- what lies outside A and never changes: over the tables of U and the heap H -/
def hz_C0 (A : Nat → Prop) (w : WC) (U : State) (H : Heap) : Prop :=
  va_Z "LastWordHill" "LOWEST" "[I" (.ref w.lo) A U H ∧ va_T .int w.lo 5 (fun j => .int (loV.getD j 0)) A U H ∧
  va_Z "LastWordHill" "HIGHEST" "[I" (.ref w.hi) A U H ∧ va_T .int w.hi 5 (fun j => .int (hiV.getD j 0)) A U H ∧
  va_Z "java/lang/String" "COMPACT_STRINGS" "Z" (.int 1) A U H ∧ va_Z "jdk/internal/util/Preconditions" "SIOOBE_FORMATTER" "Ljava/util/function/BiFunction;" (va_rf w.fm) A U H ∧ vk_S nJS lenJS bytJS w.aK w.aV A U H
def isNest : Cond → Bool
  | .methodLinkNest .. => true
  | _ => false
/-- the links of nest mates: told of each state anew -/
def hz_nt : List Cond := lw_tbl.filter isNest
theorem hz_inN {w : Cond} (i : Nat) (h : lw_tbl[i]? = some w) (g : isNest w = true) : w ∈ hz_nt := List.mem_filter.mpr ⟨List.mem_of_getElem? h, g⟩
def hz_N (U : State) : Prop := ∀ w ∈ hz_nt, va_Nw w U
theorem hz_N.warm {s U : State} (hW : s.WarmedH U.vm) (h : hz_N s) : hz_N U := by
  intro w hw
  have h1 := h w hw
  have h2 := (List.mem_filter.mp hw).2
  cases w <;> first | exact va_Nw.warmM hW h1 | cases h2
theorem hz_N.same {u U : State} (hv : u.vm = U.vm) (h : hz_N u) : hz_N U := by
  intro w hw
  have h1 := h w hw
  have h2 := (List.mem_filter.mp hw).2
  cases w <;> first | exact va_Nw.same rfl hv h1 | cases h2
def hz_C1 (w : WC) (U : State) : Prop := (∀ i q, ownJS[i]? = some q → vk_R q.1 q.2.1 q.2.2 (w.aK i) U) ∧ hz_N U
theorem hz_C0.moved {A : Nat → Prop} {w : WC} {u U : State} {H : Heap} (hvm : u.vm.Alike U.vm) (h : hz_C0 A w u H) : hz_C0 A w U H :=
  ⟨h.1.moved hvm, h.2.1.moved hvm, h.2.2.1.moved hvm, h.2.2.2.1.moved hvm, h.2.2.2.2.1.moved hvm, h.2.2.2.2.2.1.moved hvm, h.2.2.2.2.2.2.moved hvm⟩
theorem hz_C0.kept {A : Nat → Prop} {w : WC} {U : State} {H H1 : Heap} (h : hz_C0 A w U H) (hq : ∀ a : Nat, a < H.size → ¬ A a → H1[a]? = H[a]?) : hz_C0 A w U H1 :=
  ⟨h.1.kept hq, h.2.1.kept hq, h.2.2.1.kept hq, h.2.2.2.1.kept hq, h.2.2.2.2.1.kept hq, h.2.2.2.2.2.1.kept hq, h.2.2.2.2.2.2.kept hq⟩
theorem hz_C0.narrow {A B : Nat → Prop} {w : WC} {U : State} {H : Heap} (h : hz_C0 A w U H) (hAB : ∀ q, B q → A q) : hz_C0 B w U H :=
  ⟨h.1.narrow hAB, h.2.1.narrow hAB, h.2.2.1.narrow hAB, h.2.2.2.1.narrow hAB, h.2.2.2.2.1.narrow hAB, h.2.2.2.2.2.1.narrow hAB, h.2.2.2.2.2.2.narrow hAB⟩
/-- the world at a state -/
def Wd (w : WC) (σ : Sg) (U : State) : Prop := va_P w.D hz_cl (hz_wl w σ) U.heap ∧ va_K w.D hz_cl (hz_ty w) U ∧ hz_Inj w ∧ hz_C0 (hz_A w) w U U.heap ∧ hz_C1 w U
theorem Wd.blind {w : WC} {σ : Sg} {U : State} {g : JFrame} {mk : MethodId} {a : Array Value} (h : Wd w σ U) : Wd w σ (U.calling g mk a) :=
  ⟨h.1, va_K.moved (u := U) (U := U.calling g mk a) (Vm.Alike.refl U.vm) h.2.1, h.2.2.1, hz_C0.moved (u := U) (U := U.calling g mk a) (Vm.Alike.refl U.vm) h.2.2.2.1, fun i q hq => vk_R.same (u := U) (U := U.calling g mk a) rfl (h.2.2.2.2.1 i q hq), hz_N.same (u := U) (U := U.calling g mk a) rfl h.2.2.2.2.2⟩
/-- what a walk keeps from its start s: the tables, the addresses apart, the constants -/
def Bs (A : Nat → Prop) (w : WC) (s : State) : Prop := va_K w.D hz_cl (hz_ty w) s ∧ hz_Inj w ∧ hz_C0 A w s s.heap ∧ hz_C1 w s ∧ ∀ q, hz_A w q → A q
theorem Bs.at {A : Nat → Prop} {w : WC} {σ : Sg} {s U : State} {H : Heap} {locs : List Loc} (h : Bs A w s) (hP : va_P w.D hz_cl (hz_wl w σ) H) (hS : va_S A s.heap H locs) (hU : U.heap = H) (hW : s.WarmedH U.vm) : Wd w σ U := by
  refine ⟨by rw [hU]; exact hP, va_K.moved hW.alike h.1, h.2.1, ?_, fun i q hq => vk_R.warm hW (h.2.2.2.1.1 i q hq), h.2.2.2.1.2.warm hW⟩
  rw [hU]
  exact (hz_C0.moved hW.alike (h.2.2.1.kept hS.2.1)).narrow h.2.2.2.2
theorem Wd.bs {w : WC} {σ : Sg} {s : State} (h : Wd w σ s) : Bs (hz_A w) w s := ⟨h.2.1, h.2.2.1, h.2.2.2.1, h.2.2.2.2, fun _ h => h⟩
/-- a contract's end: the answer, the new world, what else was there unchanged -/
def Qx (w : WC) (r : Option Value) (σ : Sg) : Array Value → State → Outcome → State → Prop := fun _ st oc t => oc = .returned r ∧ Wd w σ t ∧ va_F (hz_A w) st t
def rmD (d : Nat) : Room := { frames := d, cells := 0, slots := 0, locals := 100 * d }
/-- the method y, asked in the world σ: it does as f says -/
def Ok {R : Type} (l : Launch) (w : WC) (y : MethodName) (cc : ByteArray) (maxL : Nat) (ret : Option FieldType) (d : Nat) (ev : R → Option Value × Sg) (av : List Value) (σ : Sg) (f : Option R) : Prop :=
  ∀ z, f = some z → Met l y (Cond.code y cc maxL ret :: hz_wt) (rmD d) (va_Pc av (Wd w σ)) (Qx w (ev z).1 (ev z).2) 0 0 (hz_A w)
abbrev evI : Int32 × Sg → Option Value × Sg := fun z => (some (.int z.1), z.2)
abbrev evV : Sg → Option Value × Sg := fun z => (none, z)
abbrev evR (w : WC) : Nat × Sg → Option Value × Sg := fun z => (some (.ref (w.ad z.1)), z.2)
abbrev evS (w : WC) : Nat × Sg → Option Value × Sg := fun z => (some (.ref (w.aK z.1)), z.2)
/-! the words of the functions -/
def bnd {α R : Type} (e : α) (k : α → Option R) : Option R := k e
def bi {R : Type} (f : Option (Int32 × Sg)) (k : Int32 → Sg → Option R) : Option R := f.bind fun z => k z.1 z.2
def bv {R : Type} (f : Option Sg) (k : Sg → Option R) : Option R := f.bind k
def br {R : Type} (f : Option (Nat × Sg)) (k : Nat → Sg → Option R) : Option R := f.bind fun z => k z.1 z.2
/-- the place i of a row of n places -/
def gd {R : Type} (i : Int32) (n : Nat) (f : Option R) : Option R := if i < 0 ∨ n ≤ i.toNatClampNeg then none else f
/-- a divisor -/
def gz {R : Type} (i : Int32) (f : Option R) : Option R := if i = 0 then none else f
/-- a truth value -/
def gb {R : Type} (i : Int32) (f : Option R) : Option R := if i = 0 ∨ i = 1 then f else none
def FU : Nat := 5000
def lp {α R : Type} : Nat → ((α → Sg → Option R) → α → Sg → Option R) → α → Sg → Option R
  | 0, _ => fun _ _ => none
  | n + 1, b => fun v σ => b (lp n b) v σ
/-! the walk's context -/
abbrev Cx : Type := Program × Launch × Env × Room × State × MethodId × Array Value × List Frame × Method × Code × WC × Option Value × Sg × Nat × Nat × (Nat → Prop) × (State → Prop)
abbrev Cx.p (C : Cx) := C.1
abbrev Cx.l (C : Cx) := C.2.1
abbrev Cx.e (C : Cx) := C.2.2.1
abbrev Cx.R (C : Cx) := C.2.2.2.1
abbrev Cx.s (C : Cx) := C.2.2.2.2.1
abbrev Cx.m (C : Cx) := C.2.2.2.2.2.1
abbrev Cx.args (C : Cx) := C.2.2.2.2.2.2.1
abbrev Cx.below (C : Cx) := C.2.2.2.2.2.2.2.1
abbrev Cx.meth (C : Cx) := C.2.2.2.2.2.2.2.2.1
abbrev Cx.c (C : Cx) := C.2.2.2.2.2.2.2.2.2.1
abbrev Cx.w (C : Cx) : WC := C.2.2.2.2.2.2.2.2.2.2.1
abbrev Cx.r (C : Cx) := C.2.2.2.2.2.2.2.2.2.2.2.1
abbrev Cx.τ (C : Cx) : Sg := C.2.2.2.2.2.2.2.2.2.2.2.2.1
abbrev Cx.cells (C : Cx) : Nat := C.2.2.2.2.2.2.2.2.2.2.2.2.2.1
abbrev Cx.slots (C : Cx) : Nat := C.2.2.2.2.2.2.2.2.2.2.2.2.2.2.1
abbrev Cx.A (C : Cx) : Nat → Prop := C.2.2.2.2.2.2.2.2.2.2.2.2.2.2.2.1
abbrev Cx.Q (C : Cx) : State → Prop := C.2.2.2.2.2.2.2.2.2.2.2.2.2.2.2.2
/-- what stays through a walk -/
def Fx (C : Cx) (cc : ByteArray) (nL : Nat) (own : String) (ret : Option FieldType) (d : Nat) : Prop :=
  C.p.tables.exec = Jvm.exec ∧ C.c.code = cc ∧ C.c.maxLocals = nL ∧ C.s.vm.findClass own = some C.m.cls ∧ (∀ w ∈ hz_wt, w.before C.args C.s = true) ∧ C.meth.sig.returnType = ret ∧ C.meth.locks = false ∧ (d ≤ C.R.frames ∧ 100 * d ≤ C.R.locals ∧ C.cells ≤ C.R.cells ∧ C.slots ≤ C.R.slots) ∧ Bs C.A C.w C.s
/-- a method's own end -/
def Ex (C : Cx) : Prop := C.Q = MQ C.below (Qx C.w C.r C.τ) C.args C.s 0 0 (hz_A C.w) ∧ C.A = hz_A C.w ∧ C.cells = 0 ∧ C.slots = 0
section FX
variable {C : Cx} {cc : ByteArray} {nL : Nat} {own : String} {ret : Option FieldType} {d : Nat}
theorem Fx.hx (X : Fx C cc nL own ret d) : C.p.tables.exec = Jvm.exec := X.1
theorem Fx.hb (X : Fx C cc nL own ret d) : C.c.code = cc := X.2.1
theorem Fx.hml (X : Fx C cc nL own ret d) : C.c.maxLocals = nL := X.2.2.1
theorem Fx.hown (X : Fx C cc nL own ret d) : C.s.vm.findClass own = some C.m.cls := X.2.2.2.1
theorem Fx.hts (X : Fx C cc nL own ret d) : ∀ w ∈ hz_wt, w.before C.args C.s = true := X.2.2.2.2.1
theorem Fx.hr (X : Fx C cc nL own ret d) : C.meth.sig.returnType = ret := X.2.2.2.2.2.1
theorem Fx.hlk (X : Fx C cc nL own ret d) : C.meth.locks = false := X.2.2.2.2.2.2.1
theorem Fx.hR (X : Fx C cc nL own ret d) : d ≤ C.R.frames ∧ 100 * d ≤ C.R.locals ∧ C.cells ≤ C.R.cells ∧ C.slots ≤ C.R.slots := X.2.2.2.2.2.2.2.1
theorem Fx.hB (X : Fx C cc nL own ret d) : Bs C.A C.w C.s := X.2.2.2.2.2.2.2.2
theorem Fx.hK (X : Fx C cc nL own ret d) : va_K C.w.D hz_cl (hz_ty C.w) C.s := X.hB.1
theorem Fx.hJ (X : Fx C cc nL own ret d) : hz_Inj C.w := X.hB.2.1
theorem Fx.hC (X : Fx C cc nL own ret d) : hz_C0 C.A C.w C.s C.s.heap := X.hB.2.2.1
theorem Fx.hC1 (X : Fx C cc nL own ret d) : hz_C1 C.w C.s := X.hB.2.2.2.1
theorem Fx.hD (X : Fx C cc nL own ret d) (σ : Sg) : va_D C.A (hz_wl C.w σ) := (hz_D C.w σ X.hJ).weaken fun _ q _ h => X.hB.2.2.2.2 q.1 h
end FX
/-- the locals that are known, by their places -/
def LV (ls : Array Slot) (nL : Nat) (L : List (Option Value)) : Prop := ls.size = nL ∧ lv_wf ls ∧ ∀ (i : Nat) (v : Value), L[i]? = some (some v) → ls[i]? = some (.val v) ∧ v.category = 1
def asc : Nat → List (Option Value) → List (Nat × Value)
  | _, [] => []
  | i, none :: t => asc (i + 1) t
  | i, some v :: t => (i, v) :: asc (i + 1) t
theorem asc_mem : ∀ (L : List (Option Value)) (i j : Nat) (v : Value), (j, v) ∈ asc i L ↔ ∃ k, j = i + k ∧ L[k]? = some (some v)
  | [], i, j, v => by simp [asc]
  | none :: t, i, j, v => by
    rw [asc, asc_mem t (i + 1) j v]
    constructor
    · rintro ⟨k, h1, h2⟩
      exact ⟨k + 1, by omega, by simpa using h2⟩
    · rintro ⟨k, h1, h2⟩
      cases k with
      | zero => simp at h2
      | succ k => exact ⟨k, by omega, by simpa using h2⟩
  | some x :: t, i, j, v => by
    rw [asc, List.mem_cons, asc_mem t (i + 1) j v]
    constructor
    · rintro (h | ⟨k, h1, h2⟩)
      · cases h
        exact ⟨0, by omega, by simp⟩
      · exact ⟨k + 1, by omega, by simpa using h2⟩
    · rintro ⟨k, h1, h2⟩
      cases k with
      | zero =>
        simp at h2
        left
        rw [h1, h2]; rfl
      | succ k => exact Or.inr ⟨k, by omega, by simpa using h2⟩
theorem LV.has {ls : Array Slot} {nL : Nat} {L : List (Option Value)} (h : LV ls nL L) : lv_has ls nL (asc 0 L) := by
  refine ⟨h.1, h.2.1, fun q hq => ?_⟩
  obtain ⟨j, v⟩ := q
  obtain ⟨k, h1, h2⟩ := (asc_mem L 0 j v).mp hq
  have : j = k := by omega
  subst this
  exact (h.2.2 j v h2).1
/-- behind a store: the place i holds v -/
theorem LV.put {ls ls' : Array Slot} {nL i : Nat} {v : Value} {L : List (Option Value)} (h : LV ls nL L) (hc : v.category = 1) (hi : i < L.length)
    (hh : lv_has ls' nL ((i, v) :: (asc 0 L).filter (fun q => !(q.1 == i) && !(q.1 + 1 == i && q.2.category == 2)))) : LV ls' nL (L.set i (some v)) := by
  refine ⟨hh.1, hh.2.1, fun j x hj => ?_⟩
  by_cases hji : j = i
  · subst hji
    rw [List.getElem?_set_self hi] at hj
    cases hj
    exact ⟨hh.2.2 _ List.mem_cons_self, hc⟩
  · rw [List.getElem?_set_ne (Ne.symm hji)] at hj
    have hx := (h.2.2 j x hj).2
    refine ⟨hh.2.2 (j, x) (List.mem_cons_of_mem _ (List.mem_filter.mpr ⟨(asc_mem L 0 j x).mpr ⟨j, by omega, hj⟩, ?_⟩)), hx⟩
    simp [hji, hx]
/-- fewer known ones -/
theorem LV.sub {ls : Array Slot} {nL : Nat} {L L' : List (Option Value)} (h : LV ls nL L) (hs : ∀ (i : Nat) (v : Value), L'[i]? = some (some v) → L[i]? = some (some v)) : LV ls nL L' := ⟨h.1, h.2.1, fun i v hv => h.2.2 i v (hs i v hv)⟩
def lsub : List (Option Value) → List (Option Value) → Prop
  | _, [] => True
  | [], none :: t => lsub [] t
  | [], some _ :: _ => False
  | _ :: t, none :: t' => lsub t t'
  | a :: t, some v :: t' => a = some v ∧ lsub t t'
theorem lsub_at : ∀ (L L' : List (Option Value)), lsub L L' → ∀ (i : Nat) (v : Value), L'[i]? = some (some v) → L[i]? = some (some v)
  | _, [], _, i, v, h => by simp at h
  | [], none :: t, hs, i, v, h => by
    cases i with
    | zero => simp at h
    | succ i => simpa using lsub_at [] t hs i v (by simpa using h)
  | [], some _ :: _, hs, _, _, _ => hs.elim
  | a :: t, none :: t', hs, i, v, h => by
    cases i with
    | zero => simp at h
    | succ i => simpa using lsub_at t t' hs i v (by simpa using h)
  | a :: t, some x :: t', hs, i, v, h => by
    cases i with
    | zero =>
      simp at h
      simp [hs.1, h]
    | succ i => simpa using lsub_at t t' hs.2 i v (by simpa using h)
/-- from here the machine comes to the method's end as the context wants it -/
def G (C : Cx) (pc : Nat) (L : List (Option Value)) (st : List Value) (σ : Sg) : Prop :=
  ∀ (H : Heap) (locs : List Loc) (ls : Array Slot), va_P C.w.D hz_cl (hz_wl C.w σ) H → va_S C.A C.s.heap H locs → LV ls C.c.maxLocals L →
    W C.p C.l C.e C.R C.s C.m C.args C.below C.meth C.c H locs C.cells C.slots C.Q (F0 C.m pc ls st)
/-- from here it goes on as f says -/
def GF {R : Type} (C : Cx) (ev : R → Option Value × Sg) (pc : Nat) (L : List (Option Value)) (st : List Value) (σ : Sg) (f : Option R) : Prop :=
  ∀ z, f = some z → ev z = (C.r, C.τ) → G C pc L st σ
