/-! FRAMES: what a function leaves as it was: all but the objects Mo and the fields Mf -/
def fP {R : Type} (pr : R → Sg) (Mo : List Nat) (Mf : List (Nat × Nat)) (s : Sg) (f : Option R) : Prop := ∀ z, f = some z → ∀ o k, o ∉ Mo → (o, k) ∉ Mf → pr z o k = s o k
abbrev prI : Int32 × Sg → Sg := fun z => z.2
abbrev prV : Sg → Sg := fun z => z
abbrev prR : Nat × Sg → Sg := fun z => z.2
section FRM
variable {R : Type} {pr : R → Sg} {Mo Mo' : List Nat} {Mf Mf' : List (Nat × Nat)} {s : Sg} {f f1 f2 : Option R}
theorem fp_no : fP pr Mo Mf s none := fun _ h => by cases h
theorem fp_sm {z : R} (h : pr z = s) : fP pr Mo Mf s (some z) := fun _ hz o k _ _ => by cases hz; rw [h]
theorem fp_ite {c : Prop} {hc : Decidable c} (kt : fP pr Mo Mf s f1) (kf : fP pr Mo Mf s f2) : fP pr Mo Mf s (@ite _ c hc f1 f2) := by
  intro z hz
  by_cases h : c
  · rw [if_pos h] at hz; exact kt z hz
  · rw [if_neg h] at hz; exact kf z hz
theorem fp_gd {i : Int32} {n : Nat} (k : fP pr Mo Mf s f) : fP pr Mo Mf s (gd i n f) := fp_ite fp_no k
theorem fp_gz {i : Int32} (k : fP pr Mo Mf s f) : fP pr Mo Mf s (gz i f) := fp_ite fp_no k
theorem fp_gb {i : Int32} (k : fP pr Mo Mf s f) : fP pr Mo Mf s (gb i f) := fp_ite k fp_no
theorem fp_gk {i n : Nat} (k : fP pr Mo Mf s f) : fP pr Mo Mf s (gk i n f) := fp_ite k fp_no
theorem fp_gs {i : Nat} (k : fP pr Mo Mf s f) : fP pr Mo Mf s (gs i f) := fp_ite k fp_no
theorem fp_gch {i : Int32} (k : fP pr Mo Mf s f) : fP pr Mo Mf s (gch i f) := fp_ite k fp_no
theorem fp_gby {i : Int32} (k : fP pr Mo Mf s f) : fP pr Mo Mf s (gby i f) := fp_ite k fp_no
theorem fp_ptA {o k : Nat} {v : Int32} {kf : Sg → Option R} (h : o ∈ Mo) (kk : ∀ τ, fP pr Mo Mf τ (kf τ)) : fP pr Mo Mf s (bnd (pt s o k v) kf) := by
  intro z hz q j h1 h2
  rw [kk _ z hz q j h1 h2]
  exact pt_o s k j v (fun e => h1 (e ▸ h))
theorem fp_ptF {o k : Nat} {v : Int32} {kf : Sg → Option R} (h : (o, k) ∈ Mf) (kk : ∀ τ, fP pr Mo Mf τ (kf τ)) : fP pr Mo Mf s (bnd (pt s o k v) kf) := by
  intro z hz q j h1 h2
  rw [kk _ z hz q j h1 h2]
  by_cases hq : q = o
  · subst hq
    exact pt_k s q v (fun e => h2 (e ▸ h))
  · exact pt_o s k j v hq
theorem fp_nm {e : Int32} {kf : Int32 → Option R} (kk : ∀ x, fP pr Mo Mf s (kf x)) : fP pr Mo Mf s (bnd e kf) := kk e
theorem fp_j0 {e : Sg → Option R} {kf : (Sg → Option R) → Option R} (h1 : ∀ τ, fP pr Mo Mf τ (e τ)) (h2 : ∀ k, (∀ τ, fP pr Mo Mf τ (k τ)) → fP pr Mo Mf s (kf k)) : fP pr Mo Mf s (bnd e kf) := h2 e h1
theorem fp_j1 {e : Int32 → Sg → Option R} {kf : (Int32 → Sg → Option R) → Option R} (h1 : ∀ a τ, fP pr Mo Mf τ (e a τ)) (h2 : ∀ k, (∀ a τ, fP pr Mo Mf τ (k a τ)) → fP pr Mo Mf s (kf k)) : fP pr Mo Mf s (bnd e kf) := h2 e h1
theorem fp_j2 {e : Int32 → Int32 → Sg → Option R} {kf : (Int32 → Int32 → Sg → Option R) → Option R} (h1 : ∀ a b τ, fP pr Mo Mf τ (e a b τ)) (h2 : ∀ k, (∀ a b τ, fP pr Mo Mf τ (k a b τ)) → fP pr Mo Mf s (kf k)) : fP pr Mo Mf s (bnd e kf) := h2 e h1
theorem fp_j3 {e : Int32 → Int32 → Int32 → Sg → Option R} {kf : (Int32 → Int32 → Int32 → Sg → Option R) → Option R} (h1 : ∀ a b c τ, fP pr Mo Mf τ (e a b c τ)) (h2 : ∀ k, (∀ a b c τ, fP pr Mo Mf τ (k a b c τ)) → fP pr Mo Mf s (kf k)) : fP pr Mo Mf s (bnd e kf) := h2 e h1
theorem fp_j4 {e : Int32 → Int32 → Int32 → Int32 → Sg → Option R} {kf : (Int32 → Int32 → Int32 → Int32 → Sg → Option R) → Option R} (h1 : ∀ a b c x τ, fP pr Mo Mf τ (e a b c x τ)) (h2 : ∀ k, (∀ a b c x τ, fP pr Mo Mf τ (k a b c x τ)) → fP pr Mo Mf s (kf k)) : fP pr Mo Mf s (bnd e kf) := h2 e h1
theorem fp_lp {α : Type} {b : (α → Sg → Option R) → α → Sg → Option R} (h : ∀ self : α → Sg → Option R, (∀ v τ, fP pr Mo Mf τ (self v τ)) → ∀ v τ, fP pr Mo Mf τ (b self v τ)) : ∀ (n : Nat) (v : α) (τ : Sg), fP pr Mo Mf τ (lp n b v τ)
  | 0, v, τ => fp_no
  | n + 1, v, τ => h (lp n b) (fp_lp h n) v τ
theorem fp_lq {α : Type} {b : (α → Sg → Option R) → α → Sg → Option R} {n : Nat} {v : α} {τ : Sg} (h : ∀ self : α → Sg → Option R, (∀ v τ, fP pr Mo Mf τ (self v τ)) → ∀ v τ, fP pr Mo Mf τ (b self v τ)) : fP pr Mo Mf τ (lp n b v τ) := fp_lp h n v τ
theorem fp_bind {R' : Type} {pq : R' → Sg} {fy : Option R'} {kf : R' → Option R} (hc : fP pq Mo' Mf' s fy) (h1 : ∀ x ∈ Mo', x ∈ Mo) (h2 : ∀ x ∈ Mf', x ∈ Mf ∨ x.1 ∈ Mo) (kk : ∀ z, fP pr Mo Mf (pq z) (kf z)) : fP pr Mo Mf s (fy.bind kf) := by
  intro z hz o k g1 g2
  obtain ⟨u, hu, hk⟩ := Option.bind_eq_some_iff.mp hz
  rw [kk u z hk o k g1 g2]
  exact hc u hu o k (fun h => g1 (h1 o h)) (fun h => (h2 _ h).elim g2 g1)
theorem fp_bi {fy : Option (Int32 × Sg)} {kf : Int32 → Sg → Option R} (hc : fP prI Mo' Mf' s fy) (h1 : ∀ x ∈ Mo', x ∈ Mo) (h2 : ∀ x ∈ Mf', x ∈ Mf ∨ x.1 ∈ Mo) (kk : ∀ r τ, fP pr Mo Mf τ (kf r τ)) : fP pr Mo Mf s (bi fy kf) := fp_bind hc h1 h2 (fun z => kk z.1 z.2)
theorem fp_bv {fy : Option Sg} {kf : Sg → Option R} (hc : fP prV Mo' Mf' s fy) (h1 : ∀ x ∈ Mo', x ∈ Mo) (h2 : ∀ x ∈ Mf', x ∈ Mf ∨ x.1 ∈ Mo) (kk : ∀ τ, fP pr Mo Mf τ (kf τ)) : fP pr Mo Mf s (bv fy kf) := fp_bind hc h1 h2 (fun z => kk z)
theorem fp_br {fy : Option (Nat × Sg)} {kf : Nat → Sg → Option R} (hc : fP prR Mo' Mf' s fy) (h1 : ∀ x ∈ Mo', x ∈ Mo) (h2 : ∀ x ∈ Mf', x ∈ Mf ∨ x.1 ∈ Mo) (kk : ∀ r τ, fP pr Mo Mf τ (kf r τ)) : fP pr Mo Mf s (br fy kf) := fp_bind hc h1 h2 (fun z => kk z.1 z.2)
theorem fp_cpy {src ls dst ld : Nat} {sp dp n : Int32} : fP prV [dst] [] s (cpy s src ls sp dst ld dp n) := by
  intro z hz o k g1 _
  unfold cpy at hz
  split at hz
  · cases hz
  · cases hz
    have : o ≠ dst := fun e => g1 (by simp [e])
    simp [rs, this]
end FRM
