/-! TEXT: conditions, of the class -/
def CS (B : Pg) (s : Sg) (W : List Nat) (p : Pg) (L : List Tk) : Prop := CW s W ∧ s 30 7 = nI (opn W) ∧ CC s (B ++ p) ∧ CT s L
def hK : List Tk → Nat
  | [] => 0
  | t :: _ => t.1
theorem opn_len : ∀ (W : List Nat), opn W ≤ W.length
  | [] => Nat.le_refl _
  | x :: w => by
    have := opn_len w
    simp only [opn, List.length_cons]
    split <;> omega
/-- behind a comparison: W waits, what is put at once by the reference isn't put yet -/
def CA (o : Nat) (B : Pg) (G : Rs) (s : Sg) (W : List Nat) (p : Pg) (L : List Tk) : Prop := CS B s W p L ∧ wl2 W ∧ W.length ≤ 27 ∧ Wok (rlW 3 W) ∧ tkl o L ∧ mln (B ++ p) + W.length + L.length ≤ 401 ∧ ∃ k, L.length ≤ k ∧ cnd k false (rlW 3 W) (p ++ rlE 3 W) L = G
theorem c_close {o : Nat} {B : Pg} {G : Rs} {s : Sg} {W0 : List Nat} {p0 : Pg} {L0 : List Tk} (ho : o < 4) (h : CA o B G s W0 p0 L0) : W1 (fRe_closeBrackets s) (fun t => ∃ W p L, CA o B G t W p L ∧ (hK L ≠ 41 ∨ rlW 1 W = []) ∧ L.length ≤ L0.length) := by
  unfold fRe_closeBrackets
  refine w1_lp (fun k v t => ∃ W p L, CA o B G t W p L ∧ L.length ≤ L0.length ∧ L.length ≤ k) ?_ FU 401 _ _ (FU_lt (by omega)) ⟨W0, p0, L0, h, Nat.le_refl _, by have := h.2.2.2.2.2.1; omega⟩
  clear h
  rintro q k v t ⟨W, p, L, hA, hL0, hLk⟩ hq
  obtain ⟨⟨hW, hO, hC, hT⟩, hw, hl, hok, hL, hb, kk, hkk, hG⟩ := hA
  have hA : CA o B G t W p L := ⟨⟨hW, hO, hC, hT⟩, hw, hl, hok, hL, hb, kk, hkk, hG⟩
  have hol := opn_len W
  rw [hO]
  refine w1_if (fun g => ?_) (fun g => ?_)
  · rw [show (0 : Int32) = nI 0 from rfl, nI_leI (by omega) (by decide)] at g
    exact w1_s ⟨W, p, L, hA, Or.inr (rl_no W hw (by omega)), hL0⟩
  match L, hL with
  | x :: r, hL =>
  obtain ⟨h7, h8, h9⟩ := CT_h hT
  have hx := (tkl_b ho hL).1
  have hge := mln_ge (B ++ p)
  rw [List.length_cons] at hb hkk
  rw [h7, show (41 : Int32) = nI 41 from rfl]
  refine w1_if (fun g2 => ?_) (fun g2 => ?_)
  · have g2 : x.1 = 41 := nI_inj (by omega) (by decide) g2
    rw [show (260 : Int32) = nI 260 from rfl]
    refine w1_bv (w1_m (c_rel (by decide) (show cl 260 = 1 from rfl) (by decide) hW hO hC hw hl (by omega)) (fun t1 h1 => ?_))
    obtain ⟨⟨a1, a2, a3⟩, a4⟩ := h1
    have hT1 : CT t1 (x :: r) := CT_c hT (frO a4 31 (by decide) (by decide)) (frO a4 33 (by decide) (by decide)) (frO a4 34 (by decide) (by decide)) (frO a4 35 (by decide) (by decide)) ⟨a4 30 3 (by decide) (by decide), a4 30 4 (by decide) (by decide)⟩
    have hlr := len_rl 1 W
    rw [c_last a1 (by omega), bi_s]
    obtain ⟨e1, e2⟩ := rl_comp (c := 1) (d := 3) (by decide) W
    obtain ⟨kk, rfl⟩ : ∃ j, kk = j + 1 := ⟨kk - 1, by omega⟩
    have hG0 := hG
    rw [cnd, if_neg (by omega), if_neg (by omega), ← e2] at hG
    have hml : mln (B ++ (p ++ rlE 1 W)) = mln (B ++ p) + (rlE 1 W).length := by rw [← List.append_assoc, mln_app, mln_rl]
    cases hr : rlW 1 W with
    | nil =>
      rw [hr] at hG a1 a2
      refine w1_if (fun e => absurd e (by decide)) (fun _ => ?_)
      refine w1_s ⟨[], p ++ rlE 1 W, x :: r, ⟨⟨a1, a2, by rw [← List.append_assoc]; exact a3, hT1⟩, (fun y hy => by cases hy), by decide, ⟨True.intro, (fun y hy => by cases hy), by decide⟩, hL, ?_, kk + 1, by rw [List.length_cons]; omega, ?_⟩, Or.inr rfl, hL0⟩
      · rw [hml, List.length_cons]
        simp only [List.length_nil]
        omega
      · rw [cnd, if_neg (by omega), if_neg (by omega)]
        dsimp only at hG
        rw [← hG, e1]
        simp [rlW, rlE]
    | cons y W2 =>
      have hy := rl2_40 W hw y W2 hr
      subst hy
      rw [hr] at hG a1 a2 hlr
      rw [List.length_cons] at hlr
      dsimp only at hG
      rw [if_pos g2] at hG
      refine w1_if (fun _ => ?_) (fun e => absurd rfl e)
      rw [bnd_e, bnd_e, pt_k _ _ _ (show (7 : Nat) ≠ 6 by decide), a1.1, a2, List.length_cons, nI_pred, show opn (40 :: W2) = opn W2 + 1 from Nat.add_comm _ _, nI_pred]
      obtain ⟨hLr, u, r', rfl⟩ := tkl_t hL (by omega)
      have hT2 : CT (pt (pt t1 30 6 (nI W2.length)) 30 7 (nI (opn W2))) (x :: u :: r') := CT_c hT1 (by rw [ptq _ _ _ (by decide), ptq _ _ _ (by decide)]) (by rw [ptq _ _ _ (by decide), ptq _ _ _ (by decide)]) (by rw [ptq _ _ _ (by decide), ptq _ _ _ (by decide)]) (by rw [ptq _ _ _ (by decide), ptq _ _ _ (by decide)]) ⟨by rw [pt_k _ _ _ (by decide), pt_k _ _ _ (by decide)], by rw [pt_k _ _ _ (by decide), pt_k _ _ _ (by decide)]⟩
      refine w1_bv (w1_m (w1_f2 (c_adv hT2) (fr_To_advance _)) (fun t2 h2 => ?_))
      have hW2 : Wok W2 := by
        have := Wok_rl 1 hok
        rw [← e2, hr] at this
        exact Wok_t this
      have hw2 : wl2 W2 := by
        have := rlW_p (P := wl2) (fun _ _ => wl2_t) 1 W hw
        rw [hr] at this
        exact wl2_t this
      refine hq (k - 1) _ _ (by rw [List.length_cons] at hLk; omega) ⟨W2, p ++ rlE 1 W, u :: r', ⟨⟨⟨?_, ?_⟩, ?_, ?_, h2.1⟩, hw2, by omega, Wok_rl 3 hW2, hLr, by rw [hml]; omega, kk, by omega, ?_⟩, by rw [List.length_cons] at hL0; omega, by rw [List.length_cons] at hLk; omega⟩
      · exact (h2.2 30 6 (by decide) (by decide)).trans (by rw [pt_k _ _ _ (by decide), pt_s])
      · rw [show t2 47 = _ from frO h2.2 47 (by decide) (by decide), ptq _ _ _ (by decide), ptq _ _ _ (by decide)]
        exact a1.2.2
      · exact (h2.2 30 7 (by decide) (by decide)).trans (pt_s _ _ _ _)
      · rw [← List.append_assoc]
        refine CC_c a3 ?_ ?_
        · exact (h2.2 37 3 (by decide) (by decide)).trans (by rw [ptq _ _ _ (by decide), ptq _ _ _ (by decide)])
        · exact (frO h2.2 40 (by decide) (by decide)).trans (by rw [ptq _ _ _ (by decide), ptq _ _ _ (by decide)])
      · rw [← hG, e1]
        simp only [List.append_assoc]
  · exact w1_s ⟨W, p, x :: r, hA, Or.inl (fun e => g2 (by rw [show x.1 = 41 from e])), hL0⟩
