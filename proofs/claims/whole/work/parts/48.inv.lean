/-! THE INVARIANT between the class (objects below 102) and the reference (102 and above), in groups -/
def bd (x : Int32) (N : Nat) : Prop := ∃ k, k ≤ N ∧ x = nI k
/-- one person: his row, and what the reference holds of him -/
def gPe (g m : Nat → Int32) (vo le pa : Int32) (p : Nat) : Prop :=
  g (p * 8) = vo ∧ g (p * 8 + 1) = le ∧ g (p * 8 + 2) = pa ∧ g (p * 8 + 3) = 99 - m (10 + p) ∧ g (p * 8 + 4) = m (20 + p) ∧ g (p * 8 + 5) = (if m (30 + p) = 0 then 0 else 1) ∧ g (p * 8 + 6) = m (30 + p) - 1 ∧ g (p * 8 + 7) = m (40 + p) ∧ bd vo 9 ∧ bd le 9 ∧ bd pa 3 ∧ bd (m (10 + p)) 99 ∧ bd (m (20 + p)) 99 ∧ bd (m (30 + p)) 20
/-- a scene -/
def gSc (f g : Nat → Int32) (np : Int32) (m vo le pa : Nat → Int32) : Prop :=
  ∃ n, n ≤ 10 ∧ np = nI n ∧ f 1 = nI n ∧ (f 2 = m 5 - 1 ∧ f 4 = m 6 - 1 ∧ f 5 = m 7 - 1 ∧ f 6 = m 8 ∧ f 7 = m 9 ∧ f 8 = m 4 + 40 ∧ f 9 = m 3 ∧ f 10 = m 0 ∧ f 11 = m 1 ∧ f 12 = m 2) ∧ (bd (m 5) 20 ∧ bd (m 6) 20 ∧ bd (m 7) n ∧ (m 7 = 0 ↔ m 6 = 0) ∧ (∃ k, 10 ≤ k ∧ k ≤ 59 ∧ m 4 + 40 = nI k) ∧ bd (m 3) 59 ∧ bd (m 2) 150) ∧ ∀ p, p < n → gPe g m (vo p) (le p) (pa p) p
def gCl (t c : Nat → Int32) (cm : Int32) (mc : Nat → Int32) (np : Int32) : Prop :=
  ∃ n N, n ≤ 16 ∧ N ≤ 10 ∧ t 3 = nI n ∧ cm = nI n ∧ np = nI N ∧ ∀ i, i < n → (∀ j, j < 4 → c (i * 4 + j) = mc (i * 4 + j)) ∧ (∃ w, w < N ∧ mc (i * 4 + 1) = nI w) ∧ bd (mc (i * 4 + 2)) 19
def gSu (t c : Nat → Int32) (sm : Int32) (ms : Nat → Int32) : Prop :=
  ∃ n, n ≤ 16 ∧ t 3 = nI n ∧ sm = nI n ∧ ∀ i, i < n → c (i * 2) = ms (i * 2) ∧ c (i * 2 + 1) = ms (i * 2 + 1) ∧ ∃ k, 10 ≤ k ∧ k ≤ 59 ∧ ms (i * 2 + 1) = nI k
def gSt (c ms : Nat → Int32) (sl sm : Int32) : Prop := sl = sm ∧ ∀ w, w < 20 → c w = ms w ∧ bd (ms w) 1023
/-! a law's line as a program: (0, x) a number, (1, j) a name, (2, d) a part, (3, g) a sign -/
def opS (g : Nat) : Nat := if g = 43 then 2 else if g = 45 then 3 else if g = 42 then 4 else if g = 60 then 6 else if g = 61 then 7 else if g = 62 then 8 else if g = 262 then 9 else if g = 261 then 10 else 11
def okS (g : Nat) : Prop := g = 43 ∨ g = 45 ∨ g = 42 ∨ g = 60 ∨ g = 61 ∨ g = 62 ∨ g = 262 ∨ g = 261 ∨ g = 260
def okP (x : Nat × Nat) : Prop := (x.1 = 0 ∧ x.2 < 10000) ∨ (x.1 = 1 ∧ x.2 < 9) ∨ (x.1 = 2 ∧ 1 ≤ x.2 ∧ x.2 < 10000) ∨ (x.1 = 3 ∧ okS x.2)
def jnS (g : Nat) (a b : Int32) : Option Int32 :=
  if g = 43 then some (a + b) else if g = 45 then some (a - b) else if g = 42 then some (a * b) else if g = 60 then some (if a < b then 1 else 0) else if g = 61 then some (if a = b then 1 else 0) else if g = 62 then some (if b < a then 1 else 0)
  else if (a = 0 ∨ a = 1) ∧ (b = 0 ∨ b = 1) then some (if g = 261 then a * b else if a = 0 ∧ b = 0 then 0 else 1) else none
/-- one step on a stack -/
def ev1 (env : Nat → Int32) (x : Nat × Nat) (st : List Int32) : Option (List Int32) :=
  if x.1 = 0 then (if st.length < 60 then some (nI x.2 :: st) else none)
  else if x.1 = 1 then (if st.length < 60 then some (env x.2 :: st) else none)
  else match st with
    | [] => none
    | a :: t => if x.1 = 2 then some (a / nI x.2 :: t) else if x.2 = 262 then some ((1 - a) :: t) else match t with
      | [] => none
      | b :: u => (jnS x.2 b a).map (· :: u)
def evP (env : Nat → Int32) : List (Nat × Nat) → List Int32 → Option (List Int32)
  | [], st => some st
  | x :: p, st => (ev1 env x st).bind (evP env p)
def wfP (p : List (Nat × Nat)) : Prop := (∀ x ∈ p, okP x) ∧ ∀ env : Nat → Int32, ∃ v, evP env p [] = some [v]
def cAt (code : Nat → Int32) : Nat → List (Nat × Nat) → Prop
  | _, [] => True
  | f, x :: p => code f = nI (x.1 * 10000 + x.2) ∧ cAt code (f + 1) p
def mln : List (Nat × Nat) → Nat
  | [] => 0
  | x :: p => (if x.1 = 2 then 2 else 1) + mln p
def mAt (op arg : Nat → Int32) : Nat → List (Nat × Nat) → Prop
  | _, [] => True
  | f, x :: p => (if x.1 = 2 then op f = 0 ∧ arg f = nI x.2 ∧ op (f + 1) = 5 else if x.1 = 3 then op f = nI (opS x.2) else op f = nI x.1 ∧ arg f = nI x.2) ∧ mAt op arg (f + if x.1 = 2 then 2 else 1) p
/-- one line of the law: kind, from, middle, end -/
def gLn (z : Nat) (code op arg : Nat → Int32) (ck cf cm ce k f m e : Int32) : Prop :=
  ∃ (p q : List (Nat × Nat)) (i i' : Nat), i + p.length + q.length ≤ z ∧ i' + mln p + mln q ≤ 400 ∧ ck = k ∧ cf = nI i ∧ cm = nI (i + p.length) ∧ ce = nI (i + p.length + q.length) ∧ f = nI i' ∧ m = nI (i' + mln p) ∧ e = nI (i' + mln p + mln q) ∧ cAt code i p ∧ cAt code (i + p.length) q ∧ mAt op arg i' p ∧ mAt op arg (i' + mln p) q ∧ wfP p ∧ (q = [] ∨ wfP q)
def gLw (t c : Nat → Int32) (sz : Int32) (code : Nat → Int32) (lm : Int32) (lw lf lh lt op arg : Nat → Int32) : Prop :=
  ∃ n z, n ≤ 16 ∧ z ≤ 400 ∧ t 3 = nI n ∧ lm = nI n ∧ sz = nI z ∧ ∀ l, l < n → gLn z code op arg (c (l * 4)) (c (l * 4 + 1)) (c (l * 4 + 2)) (c (l * 4 + 3)) (lw l) (lf l) (lh l) (lt l)
def gAn (t c : Nat → Int32) (cm : Int32) (q r : Nat → Int32) : Prop := (∃ n, n ≤ 10 ∧ t 3 = nI n ∧ cm = nI n) ∧ ∀ i, i < 10 → c (i * 2) = q i ∧ c (i * 2 + 1) = r i ∧ bd (q i) 9 ∧ bd (r i) 1
def gWa (t c : Nat → Int32) (cm : Int32) (q r : Nat → Int32) : Prop := (∃ n, n ≤ 9 ∧ t 3 = nI n ∧ cm = nI n) ∧ ∀ i, i < 9 → c (i * 2) = q i ∧ c (i * 2 + 1) = r i ∧ ∃ x y, x ≤ y ∧ y ≤ 59 ∧ q i = nI x ∧ r i = nI y
/-- the first step of that kind: where it leads to, one up; 0 if there is none -/
def ledU (c : Nat → Int32) (a w : Nat) : Nat → Nat → Int32
  | _, 0 => 0
  | i, k + 1 => if c (i * 3) = nI a ∧ c (i * 3 + 1) = nI w then c (i * 3 + 2) + 1 else ledU c a w (i + 1) k
def gSp (t c : Nat → Int32) (cm : Int32) (up : Nat → Int32) : Prop :=
  ∃ n, n ≤ 16 ∧ t 3 = nI n ∧ cm = nI n ∧ (∀ i, i < n → bd (c (i * 3)) 9 ∧ bd (c (i * 3 + 1)) 19 ∧ bd (c (i * 3 + 2)) 9) ∧ ∀ a w, a < 10 → w < 20 → up (20 * a + w) = ledU c a w 0 n
def gSl (c lm lt : Nat → Int32) : Prop :=
  ∀ w, w < 8 → ∃ n v, n ≤ 5 ∧ v < 10 ^ n ∧ c (w * 2) = nI n ∧ lm w = nI n ∧ c (w * 2 + 1) = nI v ∧ ∀ k, k < n → lt (5 * w + k) = nI (v / 10 ^ (n - 1 - k) % 10)
def gSk (t c : Nat → Int32) (cm : Int32) (q r : Nat → Int32) : Prop := (∃ n, n ≤ 6 ∧ t 3 = nI n ∧ cm = nI n) ∧ ∀ i, i < 6 → c (i * 2) = q i ∧ c (i * 2 + 1) = r i ∧ bd (q i) 30 ∧ bd (r i) 99
def gRu (f : Nat → Int32) (rb rB ru : Int32) : Prop := f 7 = rb + 1 ∧ f 8 = rB ∧ f 9 = 1000 - ru ∧ bd (f 7) 999 ∧ bd (f 8) 999 ∧ ∃ m, 1 ≤ m ∧ m ≤ 1000 ∧ f 9 = nI m
def gSh (t c : Nat → Int32) (cm : Int32) (q : Nat → Int32) : Prop := (∃ n, n ≤ 12 ∧ t 3 = nI n ∧ cm = nI n) ∧ ∀ i, i < 12 → c i = q i ∧ bd (q i) 999
def gWo (c q : Nat → Int32) : Prop := ∀ i, i < 4 → c i = q i ∧ bd (q i) 99
def gBk (c q : Nat → Int32) : Prop := ∀ k, k < 750 → c k = q k
/-- what an image holds -/
def Bg : Nat → Sg → Sg → Prop
  | 0, c, m => gSc (c 1) (c 2) (m 102 6) (m 103) (m 106) (m 107) (m 108)
  | 1, c, m => gCl (c 25) (c 26) (m 102 34) (m 120) (m 102 6)
  | 2, c, m => gSu (c 27) (c 28) (m 102 36) (m 121)
  | 3, c, m => gSt (c 29) (m 122) (c 19 4) (m 102 38)
  | 4, c, m => gLw (c 21) (c 22) (c 20 3) (c 23) (m 112 0) (m 113) (m 114) (m 115) (m 116) (m 117) (m 118)
  | 5, c, m => gAn (c 49) (c 50) (m 102 43) (m 126) (m 127)
  | 6, c, m => gWa (c 51) (c 52) (m 102 46) (m 128) (m 129)
  | 7, c, m => gSp (c 53) (c 54) (m 102 49) (m 130)
  | 8, c, m => gSl (c 56) (m 131) (m 132)
  | 9, c, m => gSk (c 57) (c 58) (m 102 53) (m 133) (m 134)
  | 10, c, m => gRu (c 48) (m 102 58) (m 102 59) (m 102 60)
  | 11, c, m => gSh (c 59) (c 60) (m 102 62) (m 138)
  | 12, c, m => gWo (c 62) (m 139)
  | 13, c, m => gBk (c 64) (m 109)
  | _, _, _ => True
def im (o : Nat) : Nat := if o ≤ 2 then o + 71 else if o ≤ 29 then o + 55 else o + 37
def imC (a : Sg) : Sg := fun o => a (im o)
/-- where the reference's image has a field or an element -/
def imP (o k : Nat) : Nat :=
  match o with
  | 103 => k
  | 102 => (match k with | 6 => 50 | 34 => 51 | 36 => 52 | 38 => 53 | 43 => 54 | 46 => 55 | 49 => 56 | 53 => 57 | 62 => 58 | 58 => 59 | 59 => 60 | _ => 61)
  | 106 => 62 + 5 * k | 107 => 63 + 5 * k | 108 => 64 + 5 * k | 126 => 65 + 5 * k | 127 => 66 + 5 * k
  | 128 => 112 + 2 * k | 129 => 113 + 2 * k | 130 => 130 + k | 131 => 330 + k | 132 => 338 + k | 133 => 378 + 2 * k | 134 => 379 + 2 * k
  | 138 => 390 + k | 139 => 402 + k | 122 => 406 + k | 120 => 426 + k | 121 => 490 + k | 109 => 522 + k | 112 => 1272
  | 113 => 1273 + 4 * k | 114 => 1274 + 4 * k | 115 => 1275 + 4 * k | 116 => 1276 + 4 * k | 117 => 1337 + 2 * k | _ => 1338 + 2 * k
def imM (b : Sg) : Sg := fun o k => b 141 (imP o k)
def gIm (a b : Sg) : Prop := (a 71 4 = 0 ∧ b 102 67 = 0) ∨ (a 71 4 = 1 ∧ b 102 67 = 1 ∧ ∀ i, Bg i (imC a) (imM b))
/-- the scenes that can be gone back to -/
def gPs (a b : Sg) : Prop :=
  ∃ f c, f < 6 ∧ c ≤ 6 ∧ a 5 1 = nI f ∧ a 5 2 = nI c ∧ b 102 3 = nI c ∧ ∀ j, j < c → gSc (a (7 + 2 * ((f + j) % 6))) (a (8 + 2 * ((f + j) % 6))) (b 102 6) (fun k => b 104 (50 * j + k)) (b 106) (b 107) (b 108)
def gTp (a b : Sg) : Prop := (∃ t, t ≤ 400 ∧ a 31 4 = nI t ∧ b 102 12 = nI t) ∧ ∀ k, k < 400 → a 32 k = b 110 k ∧ bd (a 32 k) 255
def gFt (a b : Sg) : Prop := a 30 3 = b 102 32 ∧ a 30 4 = b 102 33
def tc (t : Nat → Int32) (w l : Nat) : Prop := t 0 = nI w ∧ t 1 = nI l
def gKc (a : Sg) : Prop := tc (a 21) 4 16 ∧ tc (a 25) 4 16 ∧ tc (a 27) 2 16 ∧ tc (a 38) 4 16 ∧ tc (a 42) 4 16 ∧ tc (a 44) 2 16 ∧ tc (a 49) 2 10 ∧ tc (a 51) 2 9 ∧ tc (a 53) 3 16 ∧ tc (a 55) 2 8 ∧ tc (a 57) 2 6 ∧ tc (a 59) 1 12 ∧ tc (a 61) 1 4 ∧ tc (a 63) 5 150
def wdL : List Nat := [32, 99, 108, 105, 109, 98, 115, 32, 116, 105, 114, 101, 115, 32, 115, 97, 121, 115, 32, 119, 104, 101, 110, 32, 111, 114, 32, 97, 110, 100, 32, 110, 111, 116, 32, 118, 111, 105, 99, 101, 32, 108, 101, 103, 115, 32, 112, 97, 114, 116, 121, 32, 98, 114, 101, 97, 116, 104, 32, 104, 101, 105, 103, 104, 116, 32, 119, 111, 114, 100, 32, 108, 101, 102, 116, 32, 111, 116, 104, 101, 114, 115, 32, 100, 97, 121, 32, 111, 110, 32, 112, 101, 114, 115, 111, 110, 32, 119, 105, 116, 104, 32, 97, 116, 32, 102, 114, 111, 109, 32, 115, 101, 116, 32, 97, 110, 115, 119, 101, 114, 115, 32]
def Grp : Nat → Sg → Sg → Prop
  | 14, a, b => gIm a b
  | 15, a, b => gPs a b
  | 16, a, b => gTp a b
  | 17, a, b => gFt a b
  | 18, a, _ => gKc a
  | 19, _, b => b 102 5 = 0 ∧ ∀ k, k < 122 → b 111 k = nI (wdL.getD k 0)
  | i, a, b => Bg i a b
def Inv (a b : Sg) : Prop := ∀ i, Grp i a b
