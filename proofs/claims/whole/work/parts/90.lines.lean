/-! TEXT: the law's lines -/
abbrev Lin : Type := Nat × Pg × Pg
def fl : List Lin → Pg
  | [] => []
  | l :: r => l.2.1 ++ l.2.2 ++ fl r
theorem fl_s : ∀ (Ls : List Lin) (l : Lin), fl (Ls ++ [l]) = fl Ls ++ (l.2.1 ++ l.2.2)
  | [], l => by
    show l.2.1 ++ l.2.2 ++ [] = [] ++ (l.2.1 ++ l.2.2)
    simp
  | x :: Ls, l => by
    show x.2.1 ++ x.2.2 ++ fl (Ls ++ [l]) = x.2.1 ++ x.2.2 ++ fl Ls ++ (l.2.1 ++ l.2.2)
    rw [fl_s Ls l]
    simp
def linP (L : List Tk) : Except (Nat × Nat) (Lin × List Tk) :=
  match L with
  | [] => .error (0, 0)
  | t :: r => match sumP r [] with
    | .error e => .error e
    | .ok (_, []) => .error (0, 0)
    | .ok (p, w :: r1) => if w.1 = 259 then (match cnd 401 true [] [] r1 with | .error e => .error e | .ok (q, L2) => .ok ((t.1 - 256, p, q), L2)) else .ok ((t.1 - 256, p, []), w :: r1)
def lawL : Nat → List Lin → List Tk → Except (Nat × Nat) (List Lin)
  | 0, _, _ => .error (0, 0)
  | _ + 1, _, [] => .error (0, 0)
  | k + 1, Ls, t :: r =>
    if 256 ≤ t.1 ∧ t.1 ≤ 258 then (if Ls.length = 16 then .error (3, t.2.1) else match linP (t :: r) with
      | .error e => .error e
      | .ok (_, []) => .error (0, 0)
      | .ok (l, u :: r') => if u.1 = 59 then lawL k (Ls ++ [l]) r' else .error (1, u.2.1))
    else if t.1 = 0 then .ok Ls else .error (1, t.2.1)
def lnC (s : Sg) : List Lin → Nat → Nat → Prop
  | [], _, _ => True
  | l :: r, i, f => (s 39 (i * 4) = nI l.1 ∧ s 39 (i * 4 + 1) = nI f ∧ s 39 (i * 4 + 2) = nI (f + l.2.1.length) ∧ s 39 (i * 4 + 3) = nI (f + l.2.1.length + l.2.2.length)) ∧ lnC s r (i + 1) (f + l.2.1.length + l.2.2.length)
def lnM (s : Sg) : List Lin → Nat → Nat → Prop
  | [], _, _ => True
  | l :: r, i, f => (s 113 (32 + i) = nI l.1 ∧ s 114 (32 + i) = nI f ∧ s 115 (32 + i) = nI (f + mln l.2.1) ∧ s 116 (32 + i) = nI (f + mln l.2.1 + mln l.2.2)) ∧ lnM s r (i + 1) (f + mln l.2.1 + mln l.2.2)
theorem lnC_s {s t : Sg} {l : Lin} : ∀ (Ls : List Lin) (i f : Nat), lnC s Ls i f → (∀ k, k < (i + Ls.length) * 4 → t 39 k = s 39 k) → (t 39 ((i + Ls.length) * 4) = nI l.1 ∧ t 39 ((i + Ls.length) * 4 + 1) = nI (f + (fl Ls).length) ∧ t 39 ((i + Ls.length) * 4 + 2) = nI (f + (fl Ls).length + l.2.1.length) ∧ t 39 ((i + Ls.length) * 4 + 3) = nI (f + (fl Ls).length + l.2.1.length + l.2.2.length)) → lnC t (Ls ++ [l]) i f
  | [], i, f, _, _, h => ⟨h, True.intro⟩
  | x :: Ls, i, f, h, hk, hc => by
    rw [List.length_cons] at hk hc
    have e : (fl (x :: Ls)).length = x.2.1.length + x.2.2.length + (fl Ls).length := by
      show (x.2.1 ++ x.2.2 ++ fl Ls).length = _
      rw [List.length_append, List.length_append]
    rw [e] at hc
    refine ⟨?_, lnC_s Ls (i + 1) _ h.2 (fun k h => hk k (by omega)) ?_⟩
    · rw [hk _ (by omega), hk _ (by omega), hk _ (by omega), hk _ (by omega)]
      exact h.1
    · rw [show i + 1 + Ls.length = i + (Ls.length + 1) by omega, show f + x.2.1.length + x.2.2.length + (fl Ls).length = f + (x.2.1.length + x.2.2.length + (fl Ls).length) by omega]
      exact hc
theorem lnM_s {s t : Sg} {l : Lin} : ∀ (Ls : List Lin) (i f : Nat), lnM s Ls i f → (∀ k, k < 32 + (i + Ls.length) → t 113 k = s 113 k ∧ t 114 k = s 114 k ∧ t 115 k = s 115 k ∧ t 116 k = s 116 k) → (t 113 (32 + (i + Ls.length)) = nI l.1 ∧ t 114 (32 + (i + Ls.length)) = nI (f + mln (fl Ls)) ∧ t 115 (32 + (i + Ls.length)) = nI (f + mln (fl Ls) + mln l.2.1) ∧ t 116 (32 + (i + Ls.length)) = nI (f + mln (fl Ls) + mln l.2.1 + mln l.2.2)) → lnM t (Ls ++ [l]) i f
  | [], i, f, _, _, h => ⟨h, True.intro⟩
  | x :: Ls, i, f, h, hk, hc => by
    rw [List.length_cons] at hk hc
    have e : mln (fl (x :: Ls)) = mln x.2.1 + mln x.2.2 + mln (fl Ls) := by
      show mln (x.2.1 ++ x.2.2 ++ fl Ls) = _
      rw [mln_app, mln_app]
    rw [e] at hc
    refine ⟨?_, lnM_s Ls (i + 1) _ h.2 (fun k h => hk k (by omega)) ?_⟩
    · obtain ⟨e1, e2, e3, e4⟩ := hk (32 + i) (by omega)
      rw [e1, e2, e3, e4]
      exact h.1
    · rw [show i + 1 + Ls.length = i + (Ls.length + 1) by omega, show f + mln x.2.1 + mln x.2.2 + mln (fl Ls) = f + (mln x.2.1 + mln x.2.2 + mln (fl Ls)) by omega]
      exact hc
theorem lnC_c {s t : Sg} (h : t 39 = s 39) : ∀ (Ls : List Lin) (i f : Nat), lnC s Ls i f → lnC t Ls i f
  | [], _, _, _ => True.intro
  | x :: Ls, i, f, hh => ⟨by rw [h]; exact hh.1, lnC_c h Ls (i + 1) _ hh.2⟩
theorem lnM_c {s t : Sg} (h1 : t 113 = s 113) (h2 : t 114 = s 114) (h3 : t 115 = s 115) (h4 : t 116 = s 116) : ∀ (Ls : List Lin) (i f : Nat), lnM s Ls i f → lnM t Ls i f
  | [], _, _, _ => True.intro
  | x :: Ls, i, f, hh => ⟨by rw [h1, h2, h3, h4]; exact hh.1, lnM_c h1 h2 h3 h4 Ls (i + 1) _ hh.2⟩
/-- a line that can be worked out -/
def wln (l : Lin) : Prop := wfP l.2.1 ∧ (l.2.2 = [] ∨ wfP l.2.2)
theorem ln_ok {s t : Sg} {code op arg : Nat → Int32} {z : Nat} : ∀ (Ls : List Lin) (i f f' : Nat), lnC s Ls i f → lnM t Ls i f' → cAt code f (fl Ls) → mAt op arg f' (fl Ls) → (∀ l ∈ Ls, wln l) → f + (fl Ls).length ≤ z → f' + mln (fl Ls) ≤ 400 → ∀ j, j < Ls.length → gLn z code op arg (s 39 ((i + j) * 4)) (s 39 ((i + j) * 4 + 1)) (s 39 ((i + j) * 4 + 2)) (s 39 ((i + j) * 4 + 3)) (t 113 (32 + (i + j))) (t 114 (32 + (i + j))) (t 115 (32 + (i + j))) (t 116 (32 + (i + j)))
  | [], i, f, f', _, _, _, _, _, _, _, j, hj => by
    rw [List.length_nil] at hj
    omega
  | l :: Ls, i, f, f', hC, hM, hc, hm, hw, hz, hz', j, hj => by
    have e1 : fl (l :: Ls) = l.2.1 ++ l.2.2 ++ fl Ls := rfl
    rw [e1] at hc hm hz hz'
    obtain ⟨c1, c2⟩ := cAt_l (l.2.1 ++ l.2.2) (fl Ls) f hc
    obtain ⟨m1, m2⟩ := mAt_l (l.2.1 ++ l.2.2) (fl Ls) f' hm
    rw [List.length_append, List.length_append] at hz
    rw [mln_app, mln_app] at hz'
    match j, hj with
    | 0, _ =>
      obtain ⟨c3, c4⟩ := cAt_l l.2.1 l.2.2 f c1
      obtain ⟨m3, m4⟩ := mAt_l l.2.1 l.2.2 f' m1
      obtain ⟨x1, x2, x3, x4⟩ := hC.1
      obtain ⟨y1, y2, y3, y4⟩ := hM.1
      obtain ⟨w1, w2⟩ := hw l List.mem_cons_self
      exact ⟨l.2.1, l.2.2, f, f', by omega, by omega, x1.trans y1.symm, x2, x3, x4, y2, y3, y4, c3, c4, m3, m4, w1, w2⟩
    | j + 1, hj =>
      rw [List.length_cons] at hj
      rw [List.length_append] at c2
      rw [mln_app] at m2
      have := ln_ok (z := z) Ls (i + 1) (f + l.2.1.length + l.2.2.length) (f' + mln l.2.1 + mln l.2.2) hC.2 hM.2 (by rw [Nat.add_assoc]; exact c2) (by rw [Nat.add_assoc]; exact m2) (fun x hx => hw x (List.mem_cons_of_mem _ hx)) (by omega) (by omega) j (by omega)
      rw [show i + 1 + j = i + (j + 1) by omega] at this
      exact this
/-- what a line that was read is -/
theorem linP_w {L L' : List Tk} {l : Lin} (h : linP L = .ok (l, L')) (ht : tkl 0 L) : wln l ∧ tkl 0 L' ∧ mln l.2.1 + mln l.2.2 + L'.length + 1 ≤ L.length ∧ L'.length + 2 ≤ L.length := by
  match L, ht with
  | t :: r, ht =>
  unfold linP at h
  dsimp only at h
  cases hs : sumP r [] with
  | error e => rw [hs] at h; cases h
  | ok y =>
    obtain ⟨p, L1⟩ := y
    rw [hs] at h
    by_cases h0 : t.1 = 0
    · have hr : r = [] := by
        rcases ht.2.2.2 with ⟨_, hr⟩ | ⟨hr, _⟩
        · exact hr
        · exact absurd h0 hr
      subst hr
      cases hs
    have htr := (tkl_t ht h0).1
    obtain ⟨a1, a2, a3, a4, a5⟩ := sumP_wf (by decide) hs htr (fun x hx => by cases hx)
    have wp : wfP p := ⟨a1, fun env => a5 env [] [] (by decide) rfl⟩
    match L1, a2 with
    | w :: r1, a2 =>
    dsimp only at h
    rw [List.length_cons] at a3 a4
    by_cases g : w.1 = 259
    · rw [if_pos g] at h
      have htr1 := (tkl_t a2 (by omega)).1
      cases hs2 : cnd 401 true [] [] r1 with
      | error e => rw [hs2] at h; cases h
      | ok y2 =>
        obtain ⟨q, L2⟩ := y2
        rw [hs2] at h
        simp only [Except.ok.injEq, Prod.mk.injEq] at h
        obtain ⟨rfl, rfl⟩ := h
        obtain ⟨b1, b2, b3, b4, b5⟩ := cnd_wf (by decide) 401 true [] [] r1 q L2 hs2 htr1 ⟨True.intro, (fun y hy => by cases hy), by decide⟩ (fun x hx => by cases hx)
        have z0 : mln ([] : Pg) = 0 := rfl
        rw [z0] at a3 b3
        simp only [List.length_nil] at b3
        rw [List.length_cons]
        exact ⟨⟨wp, Or.inr ⟨b1, fun env => b5 env ⟨[], rfl, rfl, fun x hx => by cases hx⟩⟩⟩, b2, by dsimp only; omega, by omega⟩
    · rw [if_neg g] at h
      simp only [Except.ok.injEq, Prod.mk.injEq] at h
      obtain ⟨rfl, rfl⟩ := h
      have z0 : mln ([] : Pg) = 0 := rfl
      rw [z0] at a3
      rw [List.length_cons, List.length_cons]
      exact ⟨⟨wp, Or.inl rfl⟩, a2, by dsimp only; rw [z0]; omega, by omega⟩
