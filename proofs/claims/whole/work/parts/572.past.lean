/-! the newest -/
theorem pk_fm : ∀ x, x < 12 → 0 ≤ (nI x ^^^ 6) := by decide
theorem e_newest {a : Sg} {f c : Nat} (hf : f < 6) (hc : c ≤ 6) (h1 : 1 ≤ c) (e1 : a 5 1 = nI f) (e2 : a 5 2 = nI c) : fPa_newest a = some (7 + 2 * ((f + c - 1) % 6), a) := by
  unfold fPa_newest fJ9_floorMod_7cf53
  have e3 : nI f + nI c - 1 = nI (f + c - 1) := by
    rw [nI_add, show f + c = f + c - 1 + 1 by omega, nI_pred, Nat.add_sub_cancel]
  rw [e1, e2, e3, gz_n _ (by decide), if_pos (pk_fm _ (by omega)), bi_s, show (6 : Int32) = nI 6 from rfl, pk_rem (by omega) (by decide) (by decide)]
  have hm : (f + c - 1) % 6 < 6 := Nat.mod_lt _ (by decide)
  rw [gd_n _ hm (by decide), ix_n (by omega)]
  have : ∀ k, k < 6 → hz_rf 6 k = 7 + 2 * k := by decide
  rw [this _ hm]
theorem pk_rw : ∀ k, k < 6 → hz_rf (7 + 2 * k) 0 = 8 + 2 * k ∧ hz_kd (7 + 2 * k) = 5 := by decide
