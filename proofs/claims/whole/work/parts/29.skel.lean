/-! THE CLAIM OUT OF ONE WALK OF THE LAW'S BODY. Your part is whole_start (and what it stands on); all else here is the same for every law, but numbers. -/
def R_law : String := "LastWordHillLaw"
def lw_P (b : Addr) (xs : List Int32) (args : Array Value) (s : State) : Prop := args = #[.ref b] ∧ s.IntsAt b xs ∧ xs.length ≤ 3072 ∧ (Jvm.Cond.and given_1 narrow_1).before args s = true
def lw_Q (_ : Array Value) (s : State) (o : Outcome) (t : State) : Prop := o = .returned (some (.int 1)) ∧ Framed s o t [] 600000 7302250
def lw_Z (below : List Frame) (a : Array Value) (s : State) : State → Prop := fun t => ∃ o, t.status = .running ∧ Ended t below o ∧ lw_Q a s o t
/-- the law's own end, with 1 on the stack, nothing written that was there before, its room as the claim has it -/
theorem lw_ret {p : Program} {l : Launch} {e : Env} {s : State} {m : MethodId} {below : List Frame} {meth : Method} {c : Code} {b : Nat} (hx : p.tables.exec = Jvm.exec) (hb : c.code = code) (hr : meth.sig.returnType = ret) (hlocks : meth.locks = false) {pc : Nat} {H : Heap} {ls : Array Slot} (hdg : decode code pc = .ok (.ireturn, 1)) : W p l e room_1 s m #[Value.ref b] below meth c H [] 600000 7302250 (lw_Z below #[Value.ref b] s) (F0 m pc ls [.int 1]) := by
  intro T hT X
  obtain ⟨fs, hret, hrun, hended, hW, hframe⟩ := X.leave (v := some (.int 1)) (hlocks := hlocks) (fun h => by rw [hr] at h; cases h)
  have hmeth' : T.vm.method? m = some meth := X.method'
  refine ⟨T.setFrames fs, ?_, .returned (some (.int 1)), hrun, hended, rfl, ⟨_, rfl⟩, hW, hframe⟩
  jvm_step X.here [X.here.top, hx, hb, hdg, hmeth', hr, ret, narrow_b1]
  (try refine ⟨rfl, ?_⟩); (try refine ⟨rfl, ?_⟩)
  first | (intro acts; rw [hret _ acts rfl rfl rfl]) | rw [hret _ _ rfl rfl rfl]
  exact Steps.refl _
/-- what holds at the law's entry: the machine, the code, the tables' words (any of lw_tbl by 'hts w (by decide +kernel)'), the script of L ints xs at the cell b, what the Statement gives of the start (any of its parts by flat_of_before) -/
def lw_At (p : Program) (s : State) (m : MethodId) (meth : Method) (c : Code) (b L : Nat) (xs : Nat → Int32) : Prop :=
  p.tables.exec = Jvm.exec ∧ c.code = code ∧ meth.sig.returnType = ret ∧ c.maxLocals = 4 ∧ s.vm.findClass R_law = some m.cls ∧ (∀ w ∈ lw_tbl, w.before #[Value.ref b] s = true) ∧ va_X b L xs s s.heap ∧ b < s.heap.size ∧ meth.locks = false ∧ (Jvm.Cond.and given_1 narrow_1).before #[Value.ref b] s = true
/-! rows of the law's own body -/
def LE (C : Cx) (b : Nat) : Prop := C.Q = lw_Z C.below #[Value.ref b] C.s ∧ C.args = #[Value.ref b] ∧ C.cells ≤ 600000 ∧ C.slots ≤ 7302250 ∧ C.R = room_1 ∧ (C.A = fun q => C.s.heap.size ≤ q) ∧ C.r = some (.int 1)
def LX (C : Cx) (b n : Nat) (xs : Nat → Int32) : Prop := va_X b n xs C.s C.s.heap ∧ b < C.s.heap.size ∧ ¬ C.A b
section LROWS
variable {R : Type} {C : Cx} {cc : ByteArray} {nL : Nat} {own : String} {d : Nat} {ev : R → Option Value × Sg} {pc : Nat} {L : List (Option Value)} {st : List Value} {σ : Sg} {f : Option R} {b n : Nat} {xs : Nat → Int32} {rt : Option FieldType}
theorem g_sld (X : Fx C cc nL own rt d) (Y : LX C b n xs) {i : Int32} (hd : decode cc pc = .ok (.iaload, 1)) (k : GF C ev (pc + 1) L (.int (xs i.toNatClampNeg) :: st) σ f) : GF C ev pc L (.int i :: .ref b :: st) σ (gd i n f) := gf_ite (fun _ => gf_no) (fun hin z hz he H locs ls hP hS hl => va_sld X.hx X.hb Y.1 Y.2.1 Y.2.2 hS hin hd (k z hz he H locs ls hP hS hl))
theorem g_slen (X : Fx C cc nL own rt d) (Y : LX C b n xs) (hd : decode cc pc = .ok (.arraylength, 1)) (k : GF C ev (pc + 1) L (.int (nI n) :: st) σ f) : GF C ev pc L (.ref b :: st) σ f := fun z hz he H locs ls hP hS hl => va_slen X.hx X.hb Y.1 Y.2.1 Y.2.2 hS hd (k z hz he H locs ls hP hS hl)
theorem g_lret (X : Fx C code nL own ret d) (E : LE C b) {x : Int32} (hd : decode code pc = .ok (.ireturn, 1)) : GF C evI pc L [.int x] σ (some (x, σ)) := by
  intro z hz he H locs ls hP hS hl
  cases hz
  obtain ⟨h1, h2, h3, h4, h5, h6, h7⟩ := E
  have hr : some (Value.int x) = C.r := congrArg Prod.fst he
  rw [h7] at hr
  cases hr
  rw [h6] at hS
  rw [h1, h2, h5]
  refine va_forget (fun q hq => hS.2.2 q hq) ?_
  refine W.widen h3 h4 ?_
  exact lw_ret X.hx X.hb X.hr X.hlk hd
end LROWS
theorem ne_ti {x k : Int32} (h : ¬ x = k) {z : Int} (hz : k.toInt = z) : ¬ x.toInt = z := fun e => h (Int32.toInt_inj.mp (e.trans hz.symm))
