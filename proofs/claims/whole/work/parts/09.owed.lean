def i_Rel (k : Nat) (u : SX) (v : SY) : Prop :=
  ∃ (c : Int32) (rm m p : Nat) (R G F S YF : Nat → Nat) (A : Nat → Prop) (xn tk mk rc yn yr : Nat → Int32),
    u = th_X c rm m p R G F S xn tk mk rc ∧ v = th_Y rm m (fun i => S (R i)) (fun i => S (G i)) YF yn yr ∧ th_inv k rm m p R G F S YF A xn tk yn
theorem i_up {k : Nat} {u : SX} {v : SY} (h : i_Rel k u v) : i_Rel (k + 5) u v := by
  obtain ⟨c, rm, m, p, R, G, F, S, YF, A, xn, tk, mk, rc, yn, yr, e1, e2, h⟩ := h
  exact ⟨c, rm, m, p, R, G, F, S, YF, A, xn, tk, mk, rc, yn, yr, e1, e2, th_up1 h (by omega)⟩
