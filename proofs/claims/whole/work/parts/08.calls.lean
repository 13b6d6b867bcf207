/-! the calls -/
theorem xw_reg_c {post : Int32 → Prop} {t r : Int32} (a : th_reg t r → post 1) (b : ¬ th_reg t r → post 0) : wpX_isRegister post t r := by
  by_cases h : th_reg t r
  · have := a h
    obtain ⟨t', r', ht, hr, rfl, rfl⟩ := h
    exact xw_reg_t ht hr this
  · exact xw_reg_f h (b h)
theorem xw_fld_c {post : Int32 → Prop} {f : Int32} (a : th_bit f → post 1) (b : ¬ th_bit f → post 0) : wpX_isField post f := by
  by_cases h : th_bit f
  · have := a h
    obtain ⟨f', hf, rfl⟩ := h
    exact xw_fld_t hf this
  · exact xw_fld_f h (b h)
theorem xw_glb_c {post : Int32 → Prop} {f : Int32} (a : th_bit f → post 1) (b : ¬ th_bit f → post 0) : wpX_isGlobal post f := by
  by_cases h : th_bit f
  · have := a h
    obtain ⟨f', hf, rfl⟩ := h
    exact xw_glb_t hf this
  · exact xw_glb_f h (b h)
theorem yw_reg_c {post : Int32 → Prop} {v : SY} {t r : Int32} (a : th_reg t r → post 1) (b : ¬ th_reg t r → post 0) : wpY_isRegister post v t r := by
  by_cases h : th_reg t r
  · have := a h
    obtain ⟨t', r', ht, hr, rfl, rfl⟩ := h
    exact yw_reg_t ht hr this
  · exact yw_reg_f h (b h)
theorem yw_bit_c {post : Int32 → Prop} {v : SY} {f : Int32} (a : th_bit f → post 1) (b : ¬ th_bit f → post 0) : wpY_isBit post v f := by
  by_cases h : th_bit f
  · have := a h
    obtain ⟨f', hf, rfl⟩ := h
    exact yw_bit_t hf this
  · exact yw_bit_f h (b h)
theorem th_reg2 {t r s : Int32} (h1 : th_reg t r) (h2 : th_reg t s) : ∃ t' r' s' : Nat, t' < 3 ∧ r' < 4 ∧ s' < 4 ∧ t = nI t' ∧ r = nI r' ∧ s = nI s' := by
  obtain ⟨t', r', a, b, c, d⟩ := h1
  obtain ⟨_, s', _, e, _, g⟩ := h2
  exact ⟨t', r', s', a, b, e, c, d, g⟩
theorem th_Rok {k rm m p : Nat} {R G F S YF : Nat → Nat} {A : Nat → Prop} {xn tk yn : Nat → Int32} {i : Nat}
    (h : th_inv k rm m p R G F S YF A xn tk yn) (hi : i < 12) : R i ≤ rm ∧ rm ≤ 16 ∧ (R i ≠ 0 → A (R i)) := ⟨h.2.1.1 i, h.1.2.1, h.2.2.1.1.1 i hi⟩
theorem th_Gok {k rm m p : Nat} {R G F S YF : Nat → Nat} {A : Nat → Prop} {xn tk yn : Nat → Int32} {i : Nat}
    (h : th_inv k rm m p R G F S YF A xn tk yn) (hi : i < 2) : G i ≤ rm ∧ rm ≤ 16 ∧ (G i ≠ 0 → A (G i)) := ⟨h.2.1.2.1 i, h.1.2.1, h.2.2.1.1.2.1 i hi⟩
theorem th_Fok {k rm m p : Nat} {R G F S YF : Nat → Nat} {A : Nat → Prop} {xn tk yn : Nat → Int32} {s f : Nat}
    (h : th_inv k rm m p R G F S YF A xn tk yn) (hs : A s) (hf : f < 2) : F (2 * s + f) ≤ rm ∧ rm ≤ 16 ∧ (F (2 * s + f) ≠ 0 → A (F (2 * s + f))) ∧ YF (2 * S s + f) = S (F (2 * s + f)) :=
  ⟨h.2.1.2.2.1 _, h.1.2.1, h.2.2.1.1.2.2 s (by have := (h.2.2.1.2.1 s hs).1; omega) hs f hf, (h.2.2.1.2.1 s hs).2.2.2.2.2.2 f hf⟩
theorem th_m {k rm m p : Nat} {R G F S YF : Nat → Nat} {A : Nat → Prop} {xn tk yn : Nat → Int32}
    (h : th_inv k rm m p R G F S YF A xn tk yn) (hk : k + 5 ≤ 2561) : m ≤ 511 := by have := h.1.2.2.1; omega
theorem th_Sm {k rm m p : Nat} {R G F S YF : Nat → Nat} {A : Nat → Prop} {xn tk yn : Nat → Int32}
    (h : th_inv k rm m p R G F S YF A xn tk yn) (s : Nat) : S s ≤ m := h.2.2.2.2.2.2 s
theorem th_S0 {k rm m p : Nat} {R G F S YF : Nat → Nat} {A : Nat → Prop} {xn tk yn : Nat → Int32} {i : Nat}
    (h : th_inv k rm m p R G F S YF A xn tk yn) (hi : i < 12) : S (R i) = 0 ↔ R i = 0 := by
  refine ⟨fun z => ?_, fun z => by rw [z]; exact h.2.2.2.1⟩
  by_cases w : R i = 0
  · exact w
  · have := (h.2.2.1.2.1 _ ((th_Rok h hi).2.2 w)).2.2.2.1
    omega
