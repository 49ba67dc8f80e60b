/-! orders of speakers -/
def swp (o : Nat → Nat) (x y : Nat) : Nat → Nat := fun k => if k = x then o y else if k = y then o x else o k
def f1o (o : Nat → Nat) : Nat → Nat
  | 0 => 0
  | j + 1 => if o j ≤ o (j + 1) then j + 1 else f1o o j
def f3o (o : Nat → Nat) (v : Nat) : Nat → Nat
  | 0 => 0
  | k + 1 => if v ≤ o (k + 1) then k + 1 else f3o o v k
def rvo (n i : Nat) : Nat → Nat → (Nat → Nat) → Nat → Nat
  | 0, _, o => o
  | f + 1, a, o => if n + i - a ≤ a then o else rvo n i f (a + 1) (swp o a (n + i - a))
def nxF (n : Nat) (o : Nat → Nat) : Option (Nat → Nat) := if f1o o (n - 1) = 0 then none else some (rvo n (f1o o (n - 1) - 1) 6 (f1o o (n - 1)) (swp o (f1o o (n - 1) - 1) (f3o o (o (f1o o (n - 1) - 1)) (n - 1))))
/-- all orders behind a beginning -/
def pmL (n : Nat) : Nat → List Nat → List (List Nat)
  | 0, pre => [pre]
  | k + 1, pre => (List.range n).flatMap fun i => if i ∈ pre then [] else pmL n k (pre ++ [i])
def oFn (o : List Nat) : Nat → Nat := fun k => o.getD k 0
def chk (n : Nat) : List (List Nat) → Bool
  | [] => true
  | o :: t => (List.range n).all (fun k => decide (oFn o k < 6)) && (match t with
    | [] => (nxF n (oFn o)).isNone
    | o' :: _ => match nxF n (oFn o) with
      | none => false
      | some g => (List.range n).all fun k => g k == oFn o' k) && chk n t
theorem chk_ok : ∀ n, n < 7 → chk n (pmL n n []) = true ∧ (pmL n n []).length < 1000 ∧ (match pmL n n [] with | [] => false | o :: _ => (List.range n).all fun k => oFn o k == k) = true := by decide +kernel
/-! the value of an order -/
def vf (m p : Nat → Nat) (x : Nat × Nat) (i : Nat) : Nat × Nat := if p i < x.1 then x else (x.1 + m i, x.2 + 1)
def vl (m p : Nat → Nat) (o : List Nat) : Nat := (o.foldl (vf m p) (0, 0)).2
def ub (m p : Nat → Nat) (x : Nat × List Nat) (o : List Nat) : Nat × List Nat := if x.1 < vl m p o + 1 then (vl m p o + 1, o) else x
theorem vf_le (m p : Nat → Nat) : ∀ (o : List Nat) (x : Nat × Nat), (o.foldl (vf m p) x).2 ≤ x.2 + o.length
  | [], x => Nat.le_refl _
  | i :: t, x => by
    rw [List.foldl_cons, List.length_cons]
    have h := vf_le m p t (vf m p x i)
    have h2 : (vf m p x i).2 ≤ x.2 + 1 := by
      unfold vf
      split
      · omega
      · exact Nat.le_refl _
    omega
theorem pm_val {m p : Nat → Nat} {n : Nat} : ∀ (k : Nat) (pre o : List Nat), o ∈ pmL n k pre → vl m p o ≤ vl m p pre + k
  | 0, pre, o, h => by
    rw [pmL, List.mem_singleton] at h
    rw [h]
    exact Nat.le_refl _
  | k + 1, pre, o, h => by
    rw [pmL, List.mem_flatMap] at h
    obtain ⟨i, _, h2⟩ := h
    split at h2
    · cases h2
    · have := pm_val (m := m) (p := p) k (pre ++ [i]) o h2
      have h3 : vl m p (pre ++ [i]) ≤ vl m p pre + 1 := by
        unfold vl
        rw [List.foldl_append]
        exact vf_le m p [i] _
      omega
theorem ub_no {m p : Nat → Nat} : ∀ (L : List (List Nat)) (x : Nat × List Nat), (∀ o ∈ L, vl m p o + 1 ≤ x.1) → L.foldl (ub m p) x = x
  | [], x, _ => rfl
  | o :: t, x, h => by
    rw [List.foldl_cons]
    have h1 : ub m p x o = x := by
      unfold ub
      rw [if_neg (Nat.not_lt.mpr (h o (List.mem_cons_self ..)))]
    rw [h1]
    exact ub_no t x (fun o' ho => h o' (List.mem_cons_of_mem _ ho))
