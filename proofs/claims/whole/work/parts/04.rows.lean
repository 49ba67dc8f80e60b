/-! rows: an instruction, a row, over the fixed world -/
section ROWS
variable {R : Type} {C : Cx} {cc : ByteArray} {nL : Nat} {own : String} {ret : Option FieldType} {d : Nat} {ev : R → Option Value × Sg} {pc : Nat} {L : List (Option Value)} {st : List Value} {σ : Sg} {f f1 f2 : Option R}
theorem gf_ite {c : Prop} {hc : Decidable c} (kt : c → GF C ev pc L st σ f1) (kf : ¬ c → GF C ev pc L st σ f2) : GF C ev pc L st σ (@ite _ c hc f1 f2) := by
  intro z hz he
  by_cases h : c
  · rw [if_pos h] at hz; exact kt h z hz he
  · rw [if_neg h] at hz; exact kf h z hz he
theorem gf_no : GF C ev pc L st σ none := fun _ h => by cases h
theorem gf_bd {α : Type} {e : α} {k : α → Option R} (h : GF C ev pc L st σ (k e)) : GF C ev pc L st σ (bnd e k) := h
/-- a join: first what follows it, for all; then what comes to it -/
theorem gf_jn {α : Type} {e : α} {k : α → Option R} (P : α → Prop) (h1 : P e) (h2 : ∀ x, P x → GF C ev pc L st σ (k x)) : GF C ev pc L st σ (bnd e k) := h2 e h1
theorem gf_sub {L' : List (Option Value)} (k : GF C ev pc L' st σ f) (h : lsub L L') : GF C ev pc L st σ f := fun z hz he H locs ls hP hS hl => k z hz he H locs ls hP hS (hl.sub (lsub_at L L' h))
/-- a loop: its head, by the fuel -/
theorem gf_lp {α : Type} {Lf : α → List (Option Value)} {b : (α → Sg → Option R) → α → Sg → Option R} (h : ∀ self : α → Sg → Option R, (∀ v σ, GF C ev pc (Lf v) st σ (self v σ)) → ∀ v σ, GF C ev pc (Lf v) st σ (b self v σ)) : ∀ (n : Nat) (v : α) (σ : Sg), GF C ev pc (Lf v) st σ (lp n b v σ)
  | 0, v, σ => gf_no
  | n + 1, v, σ => h (lp n b) (gf_lp h n) v σ
theorem g_iconst (X : Fx C cc nL own ret d) {n : Int} (v : Int32) (hd : decode cc pc = .ok (.iconst n, 1)) (hv : Int32.ofInt n = v) (k : GF C ev (pc + 1) L (.int v :: st) σ f) : GF C ev pc L st σ f := fun z hz he H locs ls hP hS hl => lv_iconst X.hx X.hb hd hv (k z hz he H locs ls hP hS hl)
theorem g_bipush (X : Fx C cc nL own ret d) {n : Int} (v : Int32) (hd : decode cc pc = .ok (.bipush n, 2)) (hv : (Int8.ofInt n).toInt32 = v) (k : GF C ev (pc + 2) L (.int v :: st) σ f) : GF C ev pc L st σ f := fun z hz he H locs ls hP hS hl => lv_bipush X.hx X.hb hd hv (k z hz he H locs ls hP hS hl)
theorem g_sipush (X : Fx C cc nL own ret d) {n : Int} (v : Int32) (hd : decode cc pc = .ok (.sipush n, 3)) (hv : (Int16.ofInt n).toInt32 = v) (k : GF C ev (pc + 3) L (.int v :: st) σ f) : GF C ev pc L st σ f := fun z hz he H locs ls hP hS hl => lv_sipush X.hx X.hb hd hv (k z hz he H locs ls hP hS hl)
theorem g_ldc (X : Fx C cc nL own ret d) {idx : Nat} {v : Int32} (hw : Cond.constant own idx v ∈ hz_wt) (hd : decode cc pc = .ok (.ldc idx, 2)) (k : GF C ev (pc + 2) L (.int v :: st) σ f) : GF C ev pc L st σ f := fun z hz he H locs ls hP hS hl => lv_ldc X.hx X.hb X.hown (X.hts _ hw) hd (k z hz he H locs ls hP hS hl)
theorem g_ldcw (X : Fx C cc nL own ret d) {idx : Nat} {v : Int32} (hw : Cond.constant own idx v ∈ hz_wt) (hd : decode cc pc = .ok (.ldc_w idx, 3)) (k : GF C ev (pc + 3) L (.int v :: st) σ f) : GF C ev pc L st σ f := fun z hz he H locs ls hP hS hl => lv_ldcw X.hx X.hb X.hown (X.hts _ hw) hd (k z hz he H locs ls hP hS hl)
theorem g_iload_n (X : Fx C cc nL own ret d) {j : Fin 4} {x : Int32} (hd : decode cc pc = .ok (.iload_n j, 1)) (h : L[(j : Nat)]? = some (some (.int x))) (k : GF C ev (pc + 1) L (.int x :: st) σ f) : GF C ev pc L st σ f := fun z hz he H locs ls hP hS hl => lv_iload_n X.hx X.hb hd rfl (hl.2.2 _ _ h).1 (k z hz he H locs ls hP hS hl)
theorem g_iload (X : Fx C cc nL own ret d) {i : Nat} {x : Int32} (hd : decode cc pc = .ok (.iload i, 2)) (h : L[i]? = some (some (.int x))) (k : GF C ev (pc + 2) L (.int x :: st) σ f) : GF C ev pc L st σ f := fun z hz he H locs ls hP hS hl => lv_iload X.hx X.hb hd (hl.2.2 _ _ h).1 (k z hz he H locs ls hP hS hl)
theorem g_aload_n (X : Fx C cc nL own ret d) {j : Fin 4} {x : Nat} (hd : decode cc pc = .ok (.aload_n j, 1)) (h : L[(j : Nat)]? = some (some (.ref x))) (k : GF C ev (pc + 1) L (.ref x :: st) σ f) : GF C ev pc L st σ f := fun z hz he H locs ls hP hS hl => lv_aload_n X.hx X.hb hd rfl (hl.2.2 _ _ h).1 (k z hz he H locs ls hP hS hl)
theorem g_aload (X : Fx C cc nL own ret d) {i : Nat} {x : Nat} (hd : decode cc pc = .ok (.aload i, 2)) (h : L[i]? = some (some (.ref x))) (k : GF C ev (pc + 2) L (.ref x :: st) σ f) : GF C ev pc L st σ f := fun z hz he H locs ls hP hS hl => lv_aload X.hx X.hb hd (hl.2.2 _ _ h).1 (k z hz he H locs ls hP hS hl)
theorem g_istore_n (X : Fx C cc nL own ret d) {j : Fin 4} {x : Int32} (L' : List (Option Value)) (hd : decode cc pc = .ok (.istore_n j, 1)) (hi : (j : Nat) < nL) (hj : (j : Nat) < L.length) (hL : L.set j (some (.int x)) = L') (k : GF C ev (pc + 1) L' st σ f) : GF C ev pc L (.int x :: st) σ f := fun z hz he H locs ls hP hS hl => lv_istore_n X.hx X.hb hd rfl hl.has (by rw [X.hml]; exact hi) rfl (fun ls' h' => k z hz he H locs ls' hP hS (hL ▸ hl.put rfl hj h'))
theorem g_istore (X : Fx C cc nL own ret d) {i : Nat} {x : Int32} (L' : List (Option Value)) (hd : decode cc pc = .ok (.istore i, 2)) (hi : i < nL) (hj : i < L.length) (hL : L.set i (some (.int x)) = L') (k : GF C ev (pc + 2) L' st σ f) : GF C ev pc L (.int x :: st) σ f := fun z hz he H locs ls hP hS hl => lv_istore X.hx X.hb hd hl.has (by rw [X.hml]; exact hi) rfl (fun ls' h' => k z hz he H locs ls' hP hS (hL ▸ hl.put rfl hj h'))
theorem g_astore_n (X : Fx C cc nL own ret d) {j : Fin 4} {x : Nat} (L' : List (Option Value)) (hd : decode cc pc = .ok (.astore_n j, 1)) (hi : (j : Nat) < nL) (hj : (j : Nat) < L.length) (hL : L.set j (some (.ref x)) = L') (k : GF C ev (pc + 1) L' st σ f) : GF C ev pc L (.ref x :: st) σ f := fun z hz he H locs ls hP hS hl => lv_astore_n X.hx X.hb hd rfl hl.has (by rw [X.hml]; exact hi) rfl (fun ls' h' => k z hz he H locs ls' hP hS (hL ▸ hl.put rfl hj h'))
theorem g_astore (X : Fx C cc nL own ret d) {i : Nat} {x : Nat} (L' : List (Option Value)) (hd : decode cc pc = .ok (.astore i, 2)) (hi : i < nL) (hj : i < L.length) (hL : L.set i (some (.ref x)) = L') (k : GF C ev (pc + 2) L' st σ f) : GF C ev pc L (.ref x :: st) σ f := fun z hz he H locs ls hP hS hl => lv_astore X.hx X.hb hd hl.has (by rw [X.hml]; exact hi) rfl (fun ls' h' => k z hz he H locs ls' hP hS (hL ▸ hl.put rfl hj h'))
theorem g_iinc (X : Fx C cc nL own ret d) {i : Nat} {n : Int} {x : Int32} (v : Int32) (L' : List (Option Value)) (hd : decode cc pc = .ok (.iinc i n, 3)) (h : L[i]? = some (some (.int x))) (hv : x + Int32.ofInt n = v) (hi : i < nL) (hL : L.set i (some (.int v)) = L') (k : GF C ev (pc + 3) L' st σ f) : GF C ev pc L st σ f := fun z hz he H locs ls hP hS hl => by
  have hm : (i, Value.int x) ∈ asc 0 L := (asc_mem L 0 i _).mpr ⟨i, by omega, h⟩
  obtain ⟨q, hq⟩ := List.getElem?_of_mem hm
  exact lv_iinc X.hx X.hb hd hl.has hq hv (by rw [X.hml]; exact hi) rfl (fun ls' h' => k z hz he H locs ls' hP hS (hL ▸ hl.put rfl (List.getElem?_eq_some_iff.mp h).1 h'))
theorem g_iadd (X : Fx C cc nL own ret d) {x y : Int32} (hd : decode cc pc = .ok (.iadd, 1)) (k : GF C ev (pc + 1) L (.int (x + y) :: st) σ f) : GF C ev pc L (.int y :: .int x :: st) σ f := fun z hz he H locs ls hP hS hl => lv_iadd X.hx X.hb hd (k z hz he H locs ls hP hS hl)
theorem g_isub (X : Fx C cc nL own ret d) {x y : Int32} (hd : decode cc pc = .ok (.isub, 1)) (k : GF C ev (pc + 1) L (.int (x - y) :: st) σ f) : GF C ev pc L (.int y :: .int x :: st) σ f := fun z hz he H locs ls hP hS hl => lv_isub X.hx X.hb hd (k z hz he H locs ls hP hS hl)
theorem g_imul (X : Fx C cc nL own ret d) {x y : Int32} (hd : decode cc pc = .ok (.imul, 1)) (k : GF C ev (pc + 1) L (.int (x * y) :: st) σ f) : GF C ev pc L (.int y :: .int x :: st) σ f := fun z hz he H locs ls hP hS hl => lv_imul X.hx X.hb hd (k z hz he H locs ls hP hS hl)
theorem g_iand (X : Fx C cc nL own ret d) {x y : Int32} (hd : decode cc pc = .ok (.iand, 1)) (k : GF C ev (pc + 1) L (.int (x &&& y) :: st) σ f) : GF C ev pc L (.int y :: .int x :: st) σ f := fun z hz he H locs ls hP hS hl => lv_iand X.hx X.hb hd (k z hz he H locs ls hP hS hl)
theorem g_ior (X : Fx C cc nL own ret d) {x y : Int32} (hd : decode cc pc = .ok (.ior, 1)) (k : GF C ev (pc + 1) L (.int (x ||| y) :: st) σ f) : GF C ev pc L (.int y :: .int x :: st) σ f := fun z hz he H locs ls hP hS hl => lv_ior X.hx X.hb hd (k z hz he H locs ls hP hS hl)
theorem g_ixor (X : Fx C cc nL own ret d) {x y : Int32} (hd : decode cc pc = .ok (.ixor, 1)) (k : GF C ev (pc + 1) L (.int (x ^^^ y) :: st) σ f) : GF C ev pc L (.int y :: .int x :: st) σ f := fun z hz he H locs ls hP hS hl => lv_ixor X.hx X.hb hd (k z hz he H locs ls hP hS hl)
theorem g_ineg (X : Fx C cc nL own ret d) {x : Int32} (hd : decode cc pc = .ok (.ineg, 1)) (k : GF C ev (pc + 1) L (.int (-x) :: st) σ f) : GF C ev pc L (.int x :: st) σ f := fun z hz he H locs ls hP hS hl => lv_ineg X.hx X.hb hd (k z hz he H locs ls hP hS hl)
theorem g_idiv (X : Fx C cc nL own ret d) {x y : Int32} (hd : decode cc pc = .ok (.idiv, 1)) (k : GF C ev (pc + 1) L (.int (x / y) :: st) σ f) : GF C ev pc L (.int y :: .int x :: st) σ (gz y f) := gf_ite (fun _ => gf_no) (fun hne z hz he H locs ls hP hS hl => lv_idiv X.hx X.hb hd hne (k z hz he H locs ls hP hS hl))
theorem g_irem (X : Fx C cc nL own ret d) {x y : Int32} (hd : decode cc pc = .ok (.irem, 1)) (k : GF C ev (pc + 1) L (.int (x - x / y * y) :: st) σ f) : GF C ev pc L (.int y :: .int x :: st) σ (gz y f) := gf_ite (fun _ => gf_no) (fun hne z hz he H locs ls hP hS hl => lv_irem X.hx X.hb hd hne (k z hz he H locs ls hP hS hl))
theorem g_ishl (X : Fx C cc nL own ret d) {x y : Int32} (hd : decode cc pc = .ok (.ishl, 1)) (k : GF C ev (pc + 1) L (.int (x <<< (y &&& 31)) :: st) σ f) : GF C ev pc L (.int y :: .int x :: st) σ f := fun z hz he H locs ls hP hS hl => lv_ishl X.hx X.hb hd (k z hz he H locs ls hP hS hl)
theorem g_ishr (X : Fx C cc nL own ret d) {x y : Int32} (hd : decode cc pc = .ok (.ishr, 1)) (k : GF C ev (pc + 1) L (.int (x >>> (y &&& 31)) :: st) σ f) : GF C ev pc L (.int y :: .int x :: st) σ f := fun z hz he H locs ls hP hS hl => lv_ishr X.hx X.hb hd (k z hz he H locs ls hP hS hl)
/-- x >>> y -/
def usr (x y : Int32) : Int32 := (x.toUInt32 >>> (y.toUInt32 &&& Int32.toUInt32 31)).toInt32
theorem g_iushr (X : Fx C cc nL own ret d) {x y : Int32} (hd : decode cc pc = .ok (.iushr, 1)) (k : GF C ev (pc + 1) L (.int (usr x y) :: st) σ f) : GF C ev pc L (.int y :: .int x :: st) σ f := fun z hz he H locs ls hP hS hl => lv_iushr X.hx X.hb hd rfl (k z hz he H locs ls hP hS hl)
/-- (char) x -/
def chr (x : Int32) : Int32 := (x.toUInt32 % 65536).toInt32
theorem g_i2c (X : Fx C cc nL own ret d) {x : Int32} (hd : decode cc pc = .ok (.i2c, 1)) (k : GF C ev (pc + 1) L (.int (chr x) :: st) σ f) : GF C ev pc L (.int x :: st) σ f := fun z hz he H locs ls hP hS hl => lv_i2c X.hx X.hb hd rfl (k z hz he H locs ls hP hS hl)
theorem g_dup (X : Fx C cc nL own ret d) {v : Value} (hd : decode cc pc = .ok (.dup, 1)) (hv : v.category = 1) (k : GF C ev (pc + 1) L (v :: v :: st) σ f) : GF C ev pc L (v :: st) σ f := fun z hz he H locs ls hP hS hl => lv_dup X.hx X.hb hd hv (k z hz he H locs ls hP hS hl)
theorem g_dup2 (X : Fx C cc nL own ret d) {u v : Value} (hd : decode cc pc = .ok (.dup2, 1)) (hu : u.category = 1) (hv : v.category = 1) (k : GF C ev (pc + 1) L (u :: v :: u :: v :: st) σ f) : GF C ev pc L (u :: v :: st) σ f := fun z hz he H locs ls hP hS hl => lv_dup2_11 X.hx X.hb hd hu hv (k z hz he H locs ls hP hS hl)
theorem g_pop (X : Fx C cc nL own ret d) {v : Value} (hd : decode cc pc = .ok (.pop, 1)) (hv : v.category = 1) (k : GF C ev (pc + 1) L st σ f) : GF C ev pc L (v :: st) σ f := fun z hz he H locs ls hP hS hl => lv_pop X.hx X.hb hd hv (k z hz he H locs ls hP hS hl)
theorem g_goto (X : Fx C cc nL own ret d) {off : Int} (tgt : Nat) (hd : decode cc pc = .ok (.goto off, 3)) (ht : (pc : Int) + off = (tgt : Int)) (k : GF C ev tgt L st σ f) : GF C ev pc L st σ f := fun z hz he H locs ls hP hS hl => lv_goto X.hx X.hb hd ht (k z hz he H locs ls hP hS hl)
section BR
variable {x y : Int32} {off : Int} {tgt : Nat}
theorem g_ceq (X : Fx C cc nL own ret d) (hd : decode cc pc = .ok (.if_icmp .eq off, 3)) (ht : (pc : Int) + off = (tgt : Int)) (kt : GF C ev tgt L st σ f1) (kf : GF C ev (pc + 3) L st σ f2) : GF C ev pc L (.int y :: .int x :: st) σ (if x = y then f1 else f2) := fun z hz he H locs ls hP hS hl => lv_icmp_eq X.hx X.hb hd ht (fun c => kt z ((if_pos c).symm.trans hz) he H locs ls hP hS hl) (fun c => kf z ((if_neg c).symm.trans hz) he H locs ls hP hS hl)
theorem g_cne (X : Fx C cc nL own ret d) (hd : decode cc pc = .ok (.if_icmp .ne off, 3)) (ht : (pc : Int) + off = (tgt : Int)) (kf : GF C ev (pc + 3) L st σ f1) (kt : GF C ev tgt L st σ f2) : GF C ev pc L (.int y :: .int x :: st) σ (if x = y then f1 else f2) := fun z hz he H locs ls hP hS hl => lv_icmp_ne X.hx X.hb hd ht (fun c => kt z ((if_neg c).symm.trans hz) he H locs ls hP hS hl) (fun c => kf z ((if_pos c).symm.trans hz) he H locs ls hP hS hl)
theorem g_clt (X : Fx C cc nL own ret d) (hd : decode cc pc = .ok (.if_icmp .lt off, 3)) (ht : (pc : Int) + off = (tgt : Int)) (kt : GF C ev tgt L st σ f1) (kf : GF C ev (pc + 3) L st σ f2) : GF C ev pc L (.int y :: .int x :: st) σ (if x < y then f1 else f2) := fun z hz he H locs ls hP hS hl => lv_icmp_lt X.hx X.hb hd ht (fun c => kt z ((if_pos c).symm.trans hz) he H locs ls hP hS hl) (fun c => kf z ((if_neg c).symm.trans hz) he H locs ls hP hS hl)
theorem g_cge (X : Fx C cc nL own ret d) (hd : decode cc pc = .ok (.if_icmp .ge off, 3)) (ht : (pc : Int) + off = (tgt : Int)) (kt : GF C ev tgt L st σ f1) (kf : GF C ev (pc + 3) L st σ f2) : GF C ev pc L (.int y :: .int x :: st) σ (if y ≤ x then f1 else f2) := fun z hz he H locs ls hP hS hl => lv_icmp_ge X.hx X.hb hd ht (fun c => kt z ((if_pos c).symm.trans hz) he H locs ls hP hS hl) (fun c => kf z ((if_neg c).symm.trans hz) he H locs ls hP hS hl)
theorem g_cgt (X : Fx C cc nL own ret d) (hd : decode cc pc = .ok (.if_icmp .gt off, 3)) (ht : (pc : Int) + off = (tgt : Int)) (kt : GF C ev tgt L st σ f1) (kf : GF C ev (pc + 3) L st σ f2) : GF C ev pc L (.int y :: .int x :: st) σ (if y < x then f1 else f2) := fun z hz he H locs ls hP hS hl => lv_icmp_gt X.hx X.hb hd ht (fun c => kt z ((if_pos c).symm.trans hz) he H locs ls hP hS hl) (fun c => kf z ((if_neg c).symm.trans hz) he H locs ls hP hS hl)
theorem g_cle (X : Fx C cc nL own ret d) (hd : decode cc pc = .ok (.if_icmp .le off, 3)) (ht : (pc : Int) + off = (tgt : Int)) (kt : GF C ev tgt L st σ f1) (kf : GF C ev (pc + 3) L st σ f2) : GF C ev pc L (.int y :: .int x :: st) σ (if x ≤ y then f1 else f2) := fun z hz he H locs ls hP hS hl => lv_icmp_le X.hx X.hb hd ht (fun c => kt z ((if_pos c).symm.trans hz) he H locs ls hP hS hl) (fun c => kf z ((if_neg c).symm.trans hz) he H locs ls hP hS hl)
theorem g_zeq (X : Fx C cc nL own ret d) (hd : decode cc pc = .ok (.ifCond .eq off, 3)) (ht : (pc : Int) + off = (tgt : Int)) (kt : GF C ev tgt L st σ f1) (kf : GF C ev (pc + 3) L st σ f2) : GF C ev pc L (.int x :: st) σ (if x = 0 then f1 else f2) := fun z hz he H locs ls hP hS hl => lv_if_eq X.hx X.hb hd ht (fun c => kt z ((if_pos c).symm.trans hz) he H locs ls hP hS hl) (fun c => kf z ((if_neg c).symm.trans hz) he H locs ls hP hS hl)
theorem g_zne (X : Fx C cc nL own ret d) (hd : decode cc pc = .ok (.ifCond .ne off, 3)) (ht : (pc : Int) + off = (tgt : Int)) (kf : GF C ev (pc + 3) L st σ f1) (kt : GF C ev tgt L st σ f2) : GF C ev pc L (.int x :: st) σ (if x = 0 then f1 else f2) := fun z hz he H locs ls hP hS hl => lv_if_ne X.hx X.hb hd ht (fun c => kt z ((if_neg c).symm.trans hz) he H locs ls hP hS hl) (fun c => kf z ((if_pos c).symm.trans hz) he H locs ls hP hS hl)
theorem g_zlt (X : Fx C cc nL own ret d) (hd : decode cc pc = .ok (.ifCond .lt off, 3)) (ht : (pc : Int) + off = (tgt : Int)) (kt : GF C ev tgt L st σ f1) (kf : GF C ev (pc + 3) L st σ f2) : GF C ev pc L (.int x :: st) σ (if x < 0 then f1 else f2) := fun z hz he H locs ls hP hS hl => lv_if_lt X.hx X.hb hd ht (fun c => kt z ((if_pos c).symm.trans hz) he H locs ls hP hS hl) (fun c => kf z ((if_neg c).symm.trans hz) he H locs ls hP hS hl)
theorem g_zge (X : Fx C cc nL own ret d) (hd : decode cc pc = .ok (.ifCond .ge off, 3)) (ht : (pc : Int) + off = (tgt : Int)) (kt : GF C ev tgt L st σ f1) (kf : GF C ev (pc + 3) L st σ f2) : GF C ev pc L (.int x :: st) σ (if 0 ≤ x then f1 else f2) := fun z hz he H locs ls hP hS hl => lv_if_ge X.hx X.hb hd ht (fun c => kt z ((if_pos c).symm.trans hz) he H locs ls hP hS hl) (fun c => kf z ((if_neg c).symm.trans hz) he H locs ls hP hS hl)
theorem g_zgt (X : Fx C cc nL own ret d) (hd : decode cc pc = .ok (.ifCond .gt off, 3)) (ht : (pc : Int) + off = (tgt : Int)) (kt : GF C ev tgt L st σ f1) (kf : GF C ev (pc + 3) L st σ f2) : GF C ev pc L (.int x :: st) σ (if 0 < x then f1 else f2) := fun z hz he H locs ls hP hS hl => lv_if_gt X.hx X.hb hd ht (fun c => kt z ((if_pos c).symm.trans hz) he H locs ls hP hS hl) (fun c => kf z ((if_neg c).symm.trans hz) he H locs ls hP hS hl)
theorem g_zle (X : Fx C cc nL own ret d) (hd : decode cc pc = .ok (.ifCond .le off, 3)) (ht : (pc : Int) + off = (tgt : Int)) (kt : GF C ev tgt L st σ f1) (kf : GF C ev (pc + 3) L st σ f2) : GF C ev pc L (.int x :: st) σ (if x ≤ 0 then f1 else f2) := fun z hz he H locs ls hP hS hl => lv_if_le X.hx X.hb hd ht (fun c => kt z ((if_pos c).symm.trans hz) he H locs ls hP hS hl) (fun c => kf z ((if_neg c).symm.trans hz) he H locs ls hP hS hl)
/-- a table of targets, at a known number -/
theorem g_tabIn (X : Fx C cc nL own ret d) {dflt lo hi : Int} {offs : Array Int} {len : Nat} (kx : Int32) (hx : x = kx) (hd : decode cc pc = .ok (.tableswitch dflt lo hi offs, len)) (h : ¬ kx.toInt < lo ∧ ¬ hi < kx.toInt ∧ offs[(kx.toInt - lo).toNat]? = some off) (ht : (pc : Int) + off = (tgt : Int)) (k : GF C ev tgt L st σ f) : GF C ev pc L (.int x :: st) σ f := fun z hz he H locs ls hP hS hl => by
  subst hx
  exact lv_tableIn X.hx X.hb hd h.1 h.2.1 h.2.2 ht (k z hz he H locs ls hP hS hl)
theorem g_tabOut (X : Fx C cc nL own ret d) {dflt lo hi : Int} {offs : Array Int} {len : Nat} (hd : decode cc pc = .ok (.tableswitch dflt lo hi offs, len)) (h : x.toInt < lo ∨ hi < x.toInt) (ht : (pc : Int) + dflt = (tgt : Int)) (k : GF C ev tgt L st σ f) : GF C ev pc L (.int x :: st) σ f := fun z hz he H locs ls hP hS hl => lv_tableOut X.hx X.hb hd h ht (k z hz he H locs ls hP hS hl)
theorem g_look (X : Fx C cc nL own ret d) {dflt : Int} {ps : Array (Int × Int)} {len : Nat} (hd : decode cc pc = .ok (.lookupswitch dflt ps, len)) (hp : (ps.toList.zip (ps.toList.drop 1)).all (fun (a, next) => a.1 < next.1) = true) (ho : Op.lookupswitch.offset ps.toList dflt x.toInt = off) (ht : (pc : Int) + off = (tgt : Int)) (k : GF C ev tgt L st σ f) : GF C ev pc L (.int x :: st) σ f := fun z hz he H locs ls hP hS hl => lv_lookup X.hx X.hb hd hp ho ht (k z hz he H locs ls hP hS hl)
end BR
theorem ne_toInt {x k : Int32} (h : ¬ x = k) : ¬ x.toInt = k.toInt := fun e => h (Int32.toInt_inj.mp e)
/-! fields -/
def FLk (own : String) (idx ci k : Nat) : Prop := ∃ (Cn : String) (T : u_T) (N : Nat), hz_cl[ci]? = some (Cn, T, N) ∧ k < N ∧ (Cond.fieldLink own idx (T k).1 (T k).2.1 (T k).2.2.1) ∈ hz_wt ∧ (∀ w ∈ u_ws Cn T N, w ∈ hz_wt) ∧ ci < 13 ∧ (hz_bs ci).length = N
def FLp (ci k : Nat) (ty : FieldType) : Prop := ∃ (Cn : String) (T : u_T) (N : Nat) (ty0 : Nat → FieldType), hz_cl[ci]? = some (Cn, T, N) ∧ (∀ k, k < N → parseFieldDescriptor (T k).2.2.1 = some (ty0 k)) ∧ (∀ a, a < N → ∀ b, b < N → a ≠ b → (T a).2.1 ≠ (T b).2.1) ∧ (T k).2.2.2 = false ∧ parseFieldDescriptor (T k).2.2.1 = some ty
theorem g_getI (X : Fx C cc nL own ret d) {idx ci k o : Nat} (fl : FLk own idx ci k) (hb : (hz_bs ci)[k]? = some false) (ho : hz_kd o = ci) (hd : decode cc pc = .ok (.getfield idx, 3)) (kk : GF C ev (pc + 3) L (.int (σ o k) :: st) σ f) : GF C ev pc L (.ref (C.w.ad o) :: st) σ f := by
  intro z hz he H locs ls hP hS hl
  obtain ⟨Cn, T, N, hc, hk, hw, hin, hci, hbl⟩ := fl
  have hat := hz_wl_at C.w σ (hz_kd_lt ho (by omega))
  rw [hz_ceO C.w σ ho hci] at hat
  refine va_get X.hx X.hb X.hts hin X.hown X.hK hP o hat hc k hk (X.hts _ hw) (fun x h => h) (v := .int (σ o k)) ?_ hd (kk z hz he H locs ls hP hS hl)
  rw [hz_fv_at, hb]
  simp
theorem g_getR (X : Fx C cc nL own ret d) {idx ci k o : Nat} (fl : FLk own idx ci k) (hb : (hz_bs ci)[k]? = some true) (ho : hz_kd o = ci) (hd : decode cc pc = .ok (.getfield idx, 3)) (kk : GF C ev (pc + 3) L (.ref (C.w.ad (hz_rf o k)) :: st) σ f) : GF C ev pc L (.ref (C.w.ad o) :: st) σ f := by
  intro z hz he H locs ls hP hS hl
  obtain ⟨Cn, T, N, hc, hk, hw, hin, hci, hbl⟩ := fl
  have hat := hz_wl_at C.w σ (hz_kd_lt ho (by omega))
  rw [hz_ceO C.w σ ho hci] at hat
  refine va_get X.hx X.hb X.hts hin X.hown X.hK hP o hat hc k hk (X.hts _ hw) (fun x h => h) (v := .ref (C.w.ad (hz_rf o k))) ?_ hd (kk z hz he H locs ls hP hS hl)
  rw [hz_fv_at, hb]
  simp
theorem g_putT (X : Fx C cc nL own ret d) {idx ci k o : Nat} {ty : FieldType} {x : Int32} (fl : FLk own idx ci k) (hb : (hz_bs ci)[k]? = some false) (fp : FLp ci k ty) (hn : narrow ty (.int x) = .int x) (hf : fits ty (.int x) = true) (ho : hz_kd o = ci) (hd : decode cc pc = .ok (.putfield idx, 3)) {kf : Sg → Option R} (kk : ∀ τ, GF C ev (pc + 3) L st τ (kf τ)) : GF C ev pc L (.int x :: .ref (C.w.ad o) :: st) σ (bnd (pt σ o k x) kf) := by
  intro z hz he H locs ls hP hS hl
  obtain ⟨Cn, T, N, hc, hk, hw, hin, hci, hbl⟩ := fl
  obtain ⟨Cn', T', N', ty0, hc', hty, hnm, hfin, hpd⟩ := fp
  cases hc.symm.trans hc'
  have hoN := hz_kd_lt ho (by omega)
  have hat := hz_wl_at C.w σ hoN
  rw [hz_ceO C.w σ ho hci] at hat
  refine va_put X.hx X.hb X.hts hin ty0 hty hnm X.hown X.hK hP (X.hD σ) hS o hat hc k hk (X.hts _ hw) (fun x h => h) hfin hpd hn hf (by rw [hz_fv_len, hbl]; exact hk) hd (fun H1 locs1 hP1 _ hS1 => ?_)
  refine kk (pt σ o k x) z hz he H1 locs1 ls ?_ hS1 hl
  rw [← hz_set C.w σ hoN k x, hz_ceO C.w _ ho hci, pt_row]
  rw [hz_fv_set hb] at hP1
  exact hP1
theorem g_putI (X : Fx C cc nL own ret d) {idx ci k o : Nat} {x : Int32} (fl : FLk own idx ci k) (hb : (hz_bs ci)[k]? = some false) (fp : FLp ci k .int) (ho : hz_kd o = ci) (hd : decode cc pc = .ok (.putfield idx, 3)) {kf : Sg → Option R} (kk : ∀ τ, GF C ev (pc + 3) L st τ (kf τ)) : GF C ev pc L (.int x :: .ref (C.w.ad o) :: st) σ (bnd (pt σ o k x) kf) := g_putT X fl hb fp rfl rfl ho hd kk
theorem narrow_z {x : Int32} (h : x = 0 ∨ x = 1) : narrow .boolean (.int x) = .int x ∧ fits .boolean (.int x) = true := by
  rcases h with rfl | rfl <;> decide
theorem g_putZ (X : Fx C cc nL own ret d) {idx ci k o : Nat} {x : Int32} (fl : FLk own idx ci k) (hb : (hz_bs ci)[k]? = some false) (fp : FLp ci k .boolean) (ho : hz_kd o = ci) (hd : decode cc pc = .ok (.putfield idx, 3)) {kf : Sg → Option R} (kk : ∀ τ, GF C ev (pc + 3) L st τ (kf τ)) : GF C ev pc L (.int x :: .ref (C.w.ad o) :: st) σ (gb x (bnd (pt σ o k x) kf)) := gf_ite (fun h => g_putT X fl hb fp (narrow_z h).1 (narrow_z h).2 ho hd kk) (fun _ => gf_no)
/-! arrays -/
theorem g_iald (X : Fx C cc nL own ret d) {o n : Nat} {i : Int32} (ho : hz_kd o = 13) (hn : hz_ln o = n) (hd : decode cc pc = .ok (.iaload, 1)) (kk : GF C ev (pc + 1) L (.int (σ o i.toNatClampNeg) :: st) σ f) : GF C ev pc L (.int i :: .ref (C.w.ad o) :: st) σ (gd i n f) := gf_ite (fun _ => gf_no) (fun hin z hz he H locs ls hP hS hl => by
  have hat := hz_wl_at C.w σ (hz_kd_lt ho (by omega))
  rw [hz_ce13 C.w σ ho, hn] at hat
  exact va_iald X.hx X.hb X.hK hP o 0 hat rfl hin hd (kk z hz he H locs ls hP hS hl))
theorem g_iast (X : Fx C cc nL own ret d) {o n : Nat} {i x : Int32} (ho : hz_kd o = 13) (hn : hz_ln o = n) (hd : decode cc pc = .ok (.iastore, 1)) {kf : Sg → Option R} (kk : ∀ τ, GF C ev (pc + 1) L st τ (kf τ)) : GF C ev pc L (.int x :: .int i :: .ref (C.w.ad o) :: st) σ (gd i n (bnd (pt σ o i.toNatClampNeg x) kf)) := gf_ite (fun _ => gf_no) (fun hin z hz he H locs ls hP hS hl => by
  have hoN := hz_kd_lt ho (by omega)
  have hat := hz_wl_at C.w σ hoN
  rw [hz_ce13 C.w σ ho, hn] at hat
  refine va_iast X.hx X.hb X.hK hP (X.hD σ) hS o 0 hat rfl hin hd (fun H1 locs1 hP1 _ hS1 => ?_)
  refine kk (pt σ o i.toNatClampNeg x) z hz he H1 locs1 ls ?_ hS1 hl
  rw [← hz_set C.w σ hoN _ x, hz_ce13 C.w _ ho, pt_row, hn]
  have : upd (σ o) i.toNatClampNeg x = fun j => if j = i.toNatClampNeg then x else σ o j := by
    funext j
    simp [upd]
  rw [this] at hP1
  exact hP1)
theorem g_alen (X : Fx C cc nL own ret d) {o n : Nat} (ho : hz_kd o = 13) (hn : hz_ln o = n) (hd : decode cc pc = .ok (.arraylength, 1)) (kk : GF C ev (pc + 1) L (.int (nI n) :: st) σ f) : GF C ev pc L (.ref (C.w.ad o) :: st) σ f := fun z hz he H locs ls hP hS hl => by
  have hat := hz_wl_at C.w σ (hz_kd_lt ho (by omega))
  rw [hz_ce13 C.w σ ho, hn] at hat
  exact va_alen X.hx X.hb X.hK hP o 0 hat (ty := .int) rfl rfl hd (kk z hz he H locs ls hP hS hl)
theorem g_aald (X : Fx C cc nL own ret d) {o n : Nat} {i : Int32} (ho : hz_kd o = 14) (hn : hz_ln o = n) (hd : decode cc pc = .ok (.aaload, 1)) (kk : i.toNatClampNeg < n → GF C ev (pc + 1) L (.ref (C.w.ad (hz_rf o i.toNatClampNeg)) :: st) σ f) : GF C ev pc L (.int i :: .ref (C.w.ad o) :: st) σ (gd i n f) := gf_ite (fun _ => gf_no) (fun hin z hz he H locs ls hP hS hl => by
  have hat := hz_wl_at C.w σ (hz_kd_lt ho (by omega))
  rw [hz_ce14 C.w σ ho, hn] at hat
  exact va_aldq X.hx X.hb X.hK hP o 1 hat rfl hin hd (kk (Nat.not_le.mp fun q => hin (Or.inr q)) z hz he H locs ls hP hS hl))
/-! the ends -/
theorem g_end (X : Fx C cc nL own ret d) (E : Ex C) {σ : Sg} {r : Option Value} {H : Heap} {locs : List Loc} (hr : C.r = r) (hτ : C.τ = σ) (hP : va_P C.w.D hz_cl (hz_wl C.w σ) H) (hS : va_S C.A C.s.heap H locs) : ∀ t : State, t.heap = H → C.s.WarmedH t.vm → Qx C.w C.r C.τ C.args C.s (.returned r) t := by
  intro t ht hW
  refine ⟨by rw [hr], ?_, ?_⟩
  · rw [hτ]
    exact X.hB.at hP hS ht hW
  · rw [E.2.1] at hS
    exact hS.F ht
theorem g_fin (E : Ex C) {H : Heap} {locs : List Loc} {g : JFrame} (hS : va_S C.A C.s.heap H locs) (k : (∀ q ∈ locs, hz_A C.w q.base) → W C.p C.l C.e C.R C.s C.m C.args C.below C.meth C.c H locs 0 0 (MQ C.below (Qx C.w C.r C.τ) C.args C.s 0 0 (hz_A C.w)) g) : W C.p C.l C.e C.R C.s C.m C.args C.below C.meth C.c H locs C.cells C.slots C.Q g := by
  obtain ⟨h1, h2, h3, h4⟩ := E
  rw [h1, h3, h4]
  rw [h2] at hS
  exact k hS.2.2
end ROWS
section ENDS
variable {C : Cx} {cc : ByteArray} {nL : Nat} {own : String} {d : Nat} {pc : Nat} {L : List (Option Value)} {st : List Value} {σ : Sg}
theorem g_iret (X : Fx C cc nL own (some .int) d) (E : Ex C) {x : Int32} (hd : decode cc pc = .ok (.ireturn, 1)) : GF C evI pc L [.int x] σ (some (x, σ)) := by
  intro z hz he H locs ls hP hS hl
  cases hz
  have h1 : some (Value.int x) = C.r := congrArg Prod.fst he
  have h2 : σ = C.τ := congrArg Prod.snd he
  exact g_fin E hS fun hf => W.iret X.hx X.hb X.hr (g_end X E h1.symm h2.symm hP hS) hf hd X.hlk
theorem g_zret (X : Fx C cc nL own (some .boolean) d) (E : Ex C) {x : Int32} (hd : decode cc pc = .ok (.ireturn, 1)) : GF C evI pc L [.int x] σ (gb x (some (x, σ))) := gf_ite (fun h => by
  intro z hz he H locs ls hP hS hl
  cases hz
  have h1 : some (Value.int x) = C.r := congrArg Prod.fst he
  have h2 : σ = C.τ := congrArg Prod.snd he
  exact g_fin E hS fun hf => W.zret X.hx X.hb X.hr (narrow_z h).1 (g_end X E h1.symm h2.symm hP hS) hf hd X.hlk) (fun _ => gf_no)
theorem g_vret (X : Fx C cc nL own none d) (E : Ex C) (hd : decode cc pc = .ok (.return_, 1)) : GF C evV pc L [] σ (some σ) := by
  intro z hz he H locs ls hP hS hl
  cases hz
  have h1 : (none : Option Value) = C.r := congrArg Prod.fst he
  have h2 : σ = C.τ := congrArg Prod.snd he
  exact g_fin E hS fun hf => W.vret X.hx X.hb X.hr (g_end X E h1.symm h2.symm hP hS) hf hd X.hlk
theorem g_aret {nm : String} (X : Fx C cc nL own (some (.object nm)) d) (E : Ex C) {o : Nat} (hd : decode cc pc = .ok (.areturn, 1)) : GF C (evR C.w) pc L [.ref (C.w.ad o)] σ (some (o, σ)) := by
  intro z hz he H locs ls hP hS hl
  cases hz
  have h1 : some (Value.ref (C.w.ad o)) = C.r := congrArg Prod.fst he
  have h2 : σ = C.τ := congrArg Prod.snd he
  exact g_fin E hS fun hf => W.aret X.hx X.hb X.hr (Or.inl ⟨_, rfl⟩) (Or.inr ⟨_, rfl⟩) (g_end X E h1.symm h2.symm hP hS) hf hd X.hlk
end ENDS
/-! the beginning -/
theorem lv_args_mem : ∀ (vs : List Value) (i j : Nat) (v : Value), (∀ x ∈ vs, x.category = 1) → vs[j]? = some v → (i + j, v) ∈ lv_args i vs
  | [], i, j, v, _, h => by simp at h
  | a :: t, i, j, v, hc, h => by
    have ha : ¬ a.category = 2 := by rw [hc a List.mem_cons_self]; decide
    rw [lv_args, if_neg ha]
    cases j with
    | zero =>
      simp at h
      subst h
      exact List.mem_cons_self
    | succ j =>
      have := lv_args_mem t (i + 1) j v (fun x hx => hc x (List.mem_cons_of_mem _ hx)) (by simpa using h)
      have e : i + 1 + j = i + (j + 1) := by omega
      rw [e] at this
      exact List.mem_cons_of_mem _ this
theorem lg_sl_len : ∀ (vs : List Value), (∀ x ∈ vs, x.category = 1) → (lg_sl vs).length = vs.length
  | [], _ => rfl
  | a :: t, hc => by
    have ha : ¬ a.category = 2 := by rw [hc a List.mem_cons_self]; decide
    have h2 := lg_sl_len t (fun x hx => hc x (List.mem_cons_of_mem _ hx))
    unfold lg_sl at h2 ⊢
    rw [List.flatMap_cons, if_neg ha]
    simp [h2]
def cat1 (vs : List Value) : Bool := vs.all fun v => v.category == 1
def Lof (n : Nat) (vs : List Value) : List (Option Value) := vs.map some ++ List.replicate (n - vs.length) none
theorem ok_in {R : Type} {y : MethodName} {cc : ByteArray} {maxL : Nat} {ret : Option FieldType} {d : Nat} {ev : WC → R → Option Value × Sg} {av : WC → List Value} {σ : Sg} {f : Option R} (own : String) (ho : y.cls = own) (hy : plainFor y = true) (hc : ∀ w, cat1 (av w) = true) (hn : ∀ w, (av w).length ≤ maxL)
    (body : ∀ C : Cx, Fx C cc maxL own ret d → Ex C → GF C (ev C.w) 0 (Lof maxL (av C.w)) [] σ f) : ∀ (l : Launch) (w : WC), Ok l w y cc maxL ret d (ev w) (av w) σ f := by
  subst ho
  intro l w z hz
  refine va_MetF (cc := cc) (maxL := maxL) (ret := ret) hy rfl ?_
  intro p e s m args below meth c s₁ B hml hv
  obtain ⟨rfl, hW⟩ := hv
  have hcat : ∀ v ∈ av w, v.category = 1 := fun v hv => by simpa using List.all_eq_true.mp (hc w) v hv
  have hts : ∀ q ∈ hz_wt, q.before (av w).toArray s = true := fun q hq => atoms_spec (ws := Cond.code y cc maxL ret :: hz_wt) B.pre q (List.mem_cons_of_mem _ hq)
  have hown : s.vm.findClass y.cls = some m.cls := findClass_of_methodNamed B.named
  have X : Fx (p, l, e, rmD d, s, m, (av w).toArray, below, meth, c, w, (ev w z).1, (ev w z).2, 0, 0, hz_A w, MQ below (Qx w (ev w z).1 (ev w z).2) (av w).toArray s 0 0 (hz_A w)) cc maxL y.cls ret d := ⟨B.exec, B.bytes, hml, hown, hts, B.returns, B.notSynchronized, ⟨Nat.le_refl d, Nat.le_refl _, Nat.le_refl 0, Nat.le_refl 0⟩, hW.bs⟩
  have hl := lv_entry (av w) (n := maxL) (by rw [lg_sl_len _ hcat]; exact hn w)
  rw [lg_entry_eq]
  refine body _ X ⟨rfl, rfl, rfl, rfl⟩ z hz rfl s.heap [] _ hW.1 va_S.rf ⟨by rw [hl.1]; exact hml.symm, hl.2.1, fun i v hv => ?_⟩
  have hiv : (av w)[i]? = some v := by
    unfold Lof at hv
    by_cases hi : i < (av w).length
    · rw [List.getElem?_append_left (by simpa using hi), List.getElem?_map] at hv
      cases hq : (av w)[i]? with
      | none => rw [hq] at hv; cases hv
      | some q => rw [hq] at hv; cases hv; rfl
    · rw [List.getElem?_append_right (by simpa using hi)] at hv
      have := List.mem_of_getElem? hv
      simp at this
  have hm := lv_args_mem (av w) 0 i v hcat hiv
  rw [Nat.zero_add] at hm
  exact ⟨hl.2.2 (i, v) hm, hcat v (List.mem_of_getElem? hiv)⟩
