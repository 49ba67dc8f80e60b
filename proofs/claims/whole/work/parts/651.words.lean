/-! the same words, for simp by proof and not by unfolding -/
theorem bnd_x {α R : Type} (e : α) (k : α → Option R) : bnd e k = k e := Eq.trans (Eq.refl _) (Eq.refl _)
theorem bi_x {R : Type} (r : Int32) (s : Sg) (k : Int32 → Sg → Option R) : bi (some (r, s)) k = k r s := Eq.trans (Eq.refl _) (Eq.refl _)
theorem bv_x {R : Type} (s : Sg) (k : Sg → Option R) : bv (some s) k = k s := Eq.trans (Eq.refl _) (Eq.refl _)
