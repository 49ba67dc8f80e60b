/-! TEXT: conditions, pure -/
def cl (x : Nat) : Nat := if x = 60 ∨ x = 61 ∨ x = 62 then 4 else if x = 260 then 1 else if x = 261 then 2 else if x = 262 then 3 else 0
def rlE (c : Nat) : List Nat → Pg
  | [] => []
  | x :: w => if cl x < c then [] else (3, x) :: rlE c w
def rlW (c : Nat) : List Nat → List Nat
  | [] => []
  | x :: w => if cl x < c then x :: w else rlW c w
def opn : List Nat → Nat
  | [] => 0
  | x :: w => (if x = 262 ∨ x = 40 then 1 else 0) + opn w
def brk : List Nat → Nat
  | [] => 0
  | x :: w => (if x = 40 then 1 else 0) + brk w
def bin : List Nat → Nat
  | [] => 0
  | x :: w => (if x = 260 ∨ x = 261 then 1 else 0) + bin w
def cnd : Nat → Bool → List Nat → Pg → List Tk → Rs
  | 0, _, _, _, _ => .error (0, 0)
  | _ + 1, _, _, _, [] => .error (0, 0)
  | k + 1, true, W, p, t :: r =>
    if t.1 = 262 ∨ t.1 = 40 then (if opn W = 8 then .error (3, t.2.1) else cnd k true (t.1 :: W) p r)
    else match sumP (t :: r) p with
      | .error e => .error e
      | .ok (_, []) => .error (0, 0)
      | .ok (p1, c :: r1) => if 60 ≤ c.1 ∧ c.1 ≤ 62 then (match sumP r1 p1 with | .error e => .error e | .ok (p2, L2) => cnd k false (rlW 3 W) (p2 ++ [(3, c.1)] ++ rlE 3 W) L2) else .error (1, c.2.1)
  | k + 1, false, W, p, t :: r =>
    if t.1 = 261 then cnd k true (261 :: rlW 2 W) (p ++ rlE 2 W) r
    else if t.1 = 260 then cnd k true (260 :: rlW 1 W) (p ++ rlE 1 W) r
    else match rlW 1 W with
      | [] => .ok (p ++ rlE 1 W, t :: r)
      | _ :: W2 => if t.1 = 41 then cnd k false (rlW 3 W2) (p ++ rlE 1 W ++ rlE 3 W2) r else .error (1, t.2.1)
theorem rl_comp {c d : Nat} (h : c ≤ d) : ∀ (W : List Nat), rlE c W = rlE d W ++ rlE c (rlW d W) ∧ rlW c W = rlW c (rlW d W)
  | [] => ⟨rfl, rfl⟩
  | x :: w => by
    by_cases h1 : cl x < d
    · constructor
      · simp [rlE, rlW, h1]
      · simp [rlW, h1]
    · have h2 : ¬ cl x < c := by omega
      obtain ⟨i1, i2⟩ := rl_comp h w
      simp only [rlE, rlW, if_neg h1, if_neg h2]
      exact ⟨by rw [i1]; rfl, i2⟩
/-- what may wait -/
def wel (W : List Nat) : Prop := ∀ x ∈ W, x = 260 ∨ x = 261 ∨ x = 262 ∨ x = 40
def wfW : List Nat → Prop
  | x :: y :: w => (x = 261 → y = 260 ∨ y = 40) ∧ (x = 260 → y = 40) ∧ wfW (y :: w)
  | _ => True
theorem wfW_t {x : Nat} {w : List Nat} (h : wfW (x :: w)) : wfW w := by
  match w, h with
  | [], _ => exact True.intro
  | y :: w, h => exact h.2.2
theorem wel_t {x : Nat} {w : List Nat} (h : wel (x :: w)) : wel w := fun y hy => h y (List.mem_cons_of_mem _ hy)
theorem wel_c {x : Nat} {w : List Nat} (hx : x = 260 ∨ x = 261 ∨ x = 262 ∨ x = 40) (h : wel w) : wel (x :: w) := fun y hy => (List.mem_cons.mp hy).elim (fun e => by rw [e]; exact hx) (h y)
theorem rlW_p {P : List Nat → Prop} (hP : ∀ x w, P (x :: w) → P w) (c : Nat) : ∀ (W : List Nat), P W → P (rlW c W)
  | [], h => h
  | x :: w, h => by
    simp only [rlW]
    by_cases g : cl x < c
    · rw [if_pos g]; exact h
    · rw [if_neg g]; exact rlW_p hP c w (hP x w h)
theorem opn_rl (c : Nat) : ∀ (W : List Nat), opn (rlW c W) ≤ opn W
  | [] => Nat.le_refl _
  | x :: w => by
    have := opn_rl c w
    simp only [rlW]
    by_cases g : cl x < c
    · rw [if_pos g]; exact Nat.le_refl _
    · rw [if_neg g]
      simp only [opn]
      omega
theorem len_rl (c : Nat) : ∀ (W : List Nat), (rlW c W).length + (rlE c W).length = W.length
  | [] => rfl
  | x :: w => by
    have := len_rl c w
    simp only [rlW, rlE]
    by_cases g : cl x < c
    · rw [if_pos g, if_pos g]
      simp
    · rw [if_neg g, if_neg g]
      simp only [List.length_cons]
      omega
theorem mln_rl (c : Nat) : ∀ (W : List Nat), mln (rlE c W) = (rlE c W).length
  | [] => rfl
  | x :: w => by
    have := mln_rl c w
    simp only [rlE]
    by_cases g : cl x < c
    · rw [if_pos g]; rfl
    · rw [if_neg g]
      show 1 + mln (rlE c w) = (rlE c w).length + 1
      omega
theorem rl_top (c : Nat) : ∀ (W : List Nat) (x : Nat) (w : List Nat), rlW c W = x :: w → cl x < c
  | [], x, w, h => by cases h
  | y :: v, x, w, h => by
    simp only [rlW] at h
    by_cases g : cl y < c
    · rw [if_pos g] at h
      cases h
      exact g
    · rw [if_neg g] at h
      exact rl_top c v x w h
theorem W_len : ∀ (W : List Nat), wfW W → wel W → W.length ≤ 3 * opn W + (match W with | 261 :: _ => 2 | 260 :: _ => 1 | _ => 0)
  | [], _, _ => Nat.le_refl _
  | [x], _, h => by
    rcases h x (List.mem_singleton.mpr rfl) with rfl | rfl | rfl | rfl <;> decide
  | x :: y :: w, hw, h => by
    have ih := W_len (y :: w) hw.2.2 (wel_t h)
    obtain ⟨h1, h2, _⟩ := hw
    have hy := h y (List.mem_cons_of_mem _ List.mem_cons_self)
    have hb : (match y :: w with | 261 :: _ => 2 | 260 :: _ => 1 | _ => 0) ≤ 2 := by
      split <;> decide
    rcases h x List.mem_cons_self with rfl | rfl | rfl | rfl
    · have := h2 rfl
      subst this
      simp only [opn, List.length_cons] at ih ⊢
      omega
    · rcases h1 rfl with rfl | rfl
      · simp only [opn, List.length_cons] at ih ⊢
        omega
      · simp only [opn, List.length_cons] at ih ⊢
        omega
    · have e : opn (262 :: y :: w) = 1 + opn (y :: w) := rfl
      rw [e]
      simp only [List.length_cons] at ih ⊢
      omega
    · have e : opn (40 :: y :: w) = 1 + opn (y :: w) := rfl
      rw [e]
      simp only [List.length_cons] at ih ⊢
      omega
theorem W_26 {W : List Nat} (h1 : wfW W) (h2 : wel W) (h3 : opn W ≤ 8) : W.length ≤ 26 := by
  have := W_len W h1 h2
  have hb : (match W with | 261 :: _ => 2 | 260 :: _ => 1 | _ => 0) ≤ 2 := by
    split <;> decide
  omega
theorem bin_le : ∀ (W : List Nat), bin W ≤ W.length
  | [] => Nat.le_refl _
  | x :: w => by
    have := bin_le w
    simp only [bin, List.length_cons]
    split <;> omega
/-- a state of waiting that is fine -/
def Wok (W : List Nat) : Prop := wfW W ∧ wel W ∧ opn W ≤ 8
theorem Wok_rl {W : List Nat} (c : Nat) (h : Wok W) : Wok (rlW c W) := ⟨rlW_p (fun _ _ => wfW_t) c W h.1, rlW_p (P := wel) (fun _ _ => wel_t) c W h.2.1, Nat.le_trans (opn_rl c W) h.2.2⟩
theorem Wok_t {x : Nat} {W : List Nat} (h : Wok (x :: W)) : Wok W := ⟨wfW_t h.1, wel_t h.2.1, by have := h.2.2; simp only [opn] at this; omega⟩
theorem wfW_c {x : Nat} {W : List Nat} (h : wfW W) (hx : x = 262 ∨ x = 40) : wfW (x :: W) := by
  match W, h with
  | [], _ => exact True.intro
  | y :: w, h => exact ⟨fun e => by omega, fun e => by omega, h⟩
theorem Wok_open {x : Nat} {W : List Nat} (h : Wok W) (hx : x = 262 ∨ x = 40) (h8 : opn W ≠ 8) : Wok (x :: W) := ⟨wfW_c h.1 hx, wel_c (by omega) h.2.1, by
  have := h.2.2
  simp only [opn, if_pos hx]
  omega⟩
theorem cl_v {x : Nat} (h : x = 260 ∨ x = 261 ∨ x = 262 ∨ x = 40) : (x = 260 → cl x = 1) ∧ (x = 261 → cl x = 2) ∧ (x = 262 → cl x = 3) ∧ (x = 40 → cl x = 0) := by
  rcases h with rfl | rfl | rfl | rfl <;> decide
theorem Wok_and {W : List Nat} (h : Wok W) : Wok (261 :: rlW 2 W) := by
  have hr := Wok_rl 2 h
  have ht := rl_top 2 W
  refine ⟨?_, wel_c (by decide) hr.2.1, by have := hr.2.2; have e : opn (261 :: rlW 2 W) = 0 + opn (rlW 2 W) := rfl; omega⟩
  match e : rlW 2 W, hr with
  | [], _ => exact True.intro
  | y :: w, hr =>
    have hc := ht y w e
    have hy := hr.2.1 y List.mem_cons_self
    obtain ⟨c1, c2, c3, c4⟩ := cl_v hy
    refine ⟨fun _ => ?_, fun c => by omega, hr.1⟩
    rcases hy with hy | hy | hy | hy
    · exact Or.inl hy
    · have := c2 hy; omega
    · have := c3 hy; omega
    · exact Or.inr hy
theorem Wok_or {W : List Nat} (h : Wok W) : Wok (260 :: rlW 1 W) := by
  have hr := Wok_rl 1 h
  have ht := rl_top 1 W
  refine ⟨?_, wel_c (by decide) hr.2.1, by have := hr.2.2; have e : opn (260 :: rlW 1 W) = 0 + opn (rlW 1 W) := rfl; omega⟩
  match e : rlW 1 W, hr with
  | [], _ => exact True.intro
  | y :: w, hr =>
    have hc := ht y w e
    have hy := hr.2.1 y List.mem_cons_self
    obtain ⟨c1, c2, c3, c4⟩ := cl_v hy
    refine ⟨fun c => by omega, fun _ => ?_, hr.1⟩
    rcases hy with hy | hy | hy | hy
    · have := c1 hy; omega
    · have := c2 hy; omega
    · have := c3 hy; omega
    · exact hy
theorem rl_40 {W : List Nat} (h : wel W) {x : Nat} {w : List Nat} (e : rlW 1 W = x :: w) : x = 40 := by
  have hc := rl_top 1 W x w e
  have hx : x = 260 ∨ x = 261 ∨ x = 262 ∨ x = 40 := by
    have := rlW_p (P := wel) (fun _ _ => wel_t) 1 W h
    rw [e] at this
    exact this x List.mem_cons_self
  obtain ⟨c1, c2, c3, c4⟩ := cl_v hx
  rcases hx with hx | hx | hx | hx
  · have := c1 hx; omega
  · have := c2 hx; omega
  · have := c3 hx; omega
  · exact hx
/-! what a condition's code does -/
def b01 (st : List Int32) : Prop := ∀ x ∈ st, x = 0 ∨ x = 1
theorem b01_c {a : Int32} {st : List Int32} (h : a = 0 ∨ a = 1) (hs : b01 st) : b01 (a :: st) := fun x hx => (List.mem_cons.mp hx).elim (fun e => by rw [e]; exact h) (hs x)
theorem b01_t {a : Int32} {st : List Int32} (h : b01 (a :: st)) : (a = 0 ∨ a = 1) ∧ b01 st := ⟨h a List.mem_cons_self, fun x hx => h x (List.mem_cons_of_mem _ hx)⟩
theorem rl_ev {env : Nat → Int32} {c : Nat} (hc : 1 ≤ c) : ∀ (W : List Nat) (st : List Int32), wel W → b01 st → st.length = bin W + 1 → ∃ st', evP env (rlE c W) st = some st' ∧ st'.length = bin (rlW c W) + 1 ∧ b01 st'
  | [], st, _, hb, hl => ⟨st, rfl, hl, hb⟩
  | x :: w, st, hw, hb, hl => by
    simp only [rlE, rlW]
    by_cases g : cl x < c
    · rw [if_pos g, if_pos g]
      exact ⟨st, rfl, hl, hb⟩
    · rw [if_neg g, if_neg g]
      match st, hb, hl with
      | [], _, hl => simp at hl
      | a :: st, hb, hl =>
      obtain ⟨ha, hb⟩ := b01_t hb
      rcases hw x List.mem_cons_self with rfl | rfl | rfl | rfl
      · have e : bin (260 :: w) = 1 + bin w := rfl
        rw [e, List.length_cons] at hl
        match st, hb, hl with
        | [], _, hl => simp only [List.length_nil] at hl; omega
        | d :: st, hb, hl =>
        obtain ⟨hd, hb⟩ := b01_t hb
        have h1 : ∃ v, (v = 0 ∨ v = 1) ∧ ev1 env (3, 260) (a :: d :: st) = some (v :: st) := by
          rcases ha with rfl | rfl <;> rcases hd with rfl | rfl
          · exact ⟨0, Or.inl rfl, rfl⟩
          · exact ⟨1, Or.inr rfl, rfl⟩
          · exact ⟨1, Or.inr rfl, rfl⟩
          · exact ⟨1, Or.inr rfl, rfl⟩
        obtain ⟨v, hv, e1⟩ := h1
        obtain ⟨st', y1, y2, y3⟩ := rl_ev hc w (v :: st) (wel_t hw) (b01_c hv hb) (by simp only [List.length_cons] at hl ⊢; omega)
        refine ⟨st', ?_, y2, y3⟩
        show (ev1 env (3, 260) (a :: d :: st)).bind (evP env (rlE c w)) = _
        rw [e1]
        exact y1
      · have e : bin (261 :: w) = 1 + bin w := rfl
        rw [e, List.length_cons] at hl
        match st, hb, hl with
        | [], _, hl => simp only [List.length_nil] at hl; omega
        | d :: st, hb, hl =>
        obtain ⟨hd, hb⟩ := b01_t hb
        have h1 : ∃ v, (v = 0 ∨ v = 1) ∧ ev1 env (3, 261) (a :: d :: st) = some (v :: st) := by
          rcases ha with rfl | rfl <;> rcases hd with rfl | rfl
          · exact ⟨0, Or.inl rfl, rfl⟩
          · exact ⟨0, Or.inl rfl, rfl⟩
          · exact ⟨0, Or.inl rfl, rfl⟩
          · exact ⟨1, Or.inr rfl, rfl⟩
        obtain ⟨v, hv, e1⟩ := h1
        obtain ⟨st', y1, y2, y3⟩ := rl_ev hc w (v :: st) (wel_t hw) (b01_c hv hb) (by simp only [List.length_cons] at hl ⊢; omega)
        refine ⟨st', ?_, y2, y3⟩
        show (ev1 env (3, 261) (a :: d :: st)).bind (evP env (rlE c w)) = _
        rw [e1]
        exact y1
      · have e : bin (262 :: w) = 0 + bin w := rfl
        rw [e, List.length_cons] at hl
        have h1 : ∃ v, (v = 0 ∨ v = 1) ∧ ev1 env (3, 262) (a :: st) = some (v :: st) := by
          rcases ha with rfl | rfl
          · exact ⟨1, Or.inr rfl, rfl⟩
          · exact ⟨0, Or.inl rfl, rfl⟩
        obtain ⟨v, hv, e1⟩ := h1
        obtain ⟨st', y1, y2, y3⟩ := rl_ev hc w (v :: st) (wel_t hw) (b01_c hv hb) (by simp only [List.length_cons] at hl ⊢; omega)
        refine ⟨st', ?_, y2, y3⟩
        show (ev1 env (3, 262) (a :: st)).bind (evP env (rlE c w)) = _
        rw [e1]
        exact y1
      · exact absurd (show cl 40 < c by show 0 < c; omega) g
theorem rl_ok {c : Nat} : ∀ (W : List Nat), 1 ≤ c → wel W → ∀ x ∈ rlE c W, okP x
  | [], _, _, x, hx => by cases hx
  | y :: w, hc, hw, x, hx => by
    simp only [rlE] at hx
    by_cases g : cl y < c
    · rw [if_pos g] at hx; cases hx
    · rw [if_neg g] at hx
      rcases List.mem_cons.mp hx with rfl | hx
      · refine Or.inr (Or.inr (Or.inr ⟨rfl, ?_⟩))
        unfold okS
        rcases hw y List.mem_cons_self with h | h | h | h
        · omega
        · omega
        · omega
        · rw [h] at g
          exact absurd (show cl 40 < c by show 0 < c; omega) g
      · exact rl_ok w hc (wel_t hw) x hx
/-- the stack at a point of a condition -/
def EC (due : Bool) (W : List Nat) (env : Nat → Int32) (p : Pg) : Prop := ∃ st, evP env p [] = some st ∧ st.length = bin W + (if due then 0 else 1) ∧ b01 st
theorem EC_rl {W : List Nat} {env : Nat → Int32} {p : Pg} {c : Nat} (hc : 1 ≤ c) (hw : wel W) (h : EC false W env p) : EC false (rlW c W) env (p ++ rlE c W) := by
  obtain ⟨st, h1, h2, h3⟩ := h
  obtain ⟨st', y1, y2, y3⟩ := rl_ev hc W st hw h3 h2
  exact ⟨st', by rw [evP_app, h1]; exact y1, y2, y3⟩
theorem ev_cmp {env : Nat → Int32} {g : Nat} {a d : Int32} {w : List Int32} (hg : 60 ≤ g ∧ g ≤ 62) : ∃ v, (v = 0 ∨ v = 1) ∧ ev1 env (3, g) (a :: d :: w) = some (v :: w) := by
  have : g = 60 ∨ g = 61 ∨ g = 62 := by omega
  rcases this with rfl | rfl | rfl
  · refine ⟨if d < a then 1 else 0, ?_, rfl⟩
    split
    · exact Or.inr rfl
    · exact Or.inl rfl
  · refine ⟨if d = a then 1 else 0, ?_, rfl⟩
    split
    · exact Or.inr rfl
    · exact Or.inl rfl
  · refine ⟨if a < d then 1 else 0, ?_, rfl⟩
    split
    · exact Or.inr rfl
    · exact Or.inl rfl
