/-! the calls -/
theorem xw_reg_c {post : Int32 → Prop} {t r : Int32} (a : th_reg t r → post 1) (b : ¬ th_reg t r → post 0) : wpX_isRegister post t r := by
  by_cases h : th_reg t r
  · have := a h
    obtain ⟨t', r', ht, hr, rfl, rfl⟩ := h
    exact xw_reg_t ht hr this
  · exact xw_reg_f h (b h)
theorem xw_fld_c {post : Int32 → Prop} {f : Int32} (a : th_bit f → post 1) (b : ¬ th_bit f → post 0) : wpX_isField post f := by
  by_cases h : th_bit f
  · have := a h
    obtain ⟨f', hf, rfl⟩ := h
    exact xw_fld_t hf this
  · exact xw_fld_f h (b h)
theorem xw_glb_c {post : Int32 → Prop} {f : Int32} (a : th_bit f → post 1) (b : ¬ th_bit f → post 0) : wpX_isGlobal post f := by
  by_cases h : th_bit f
  · have := a h
    obtain ⟨f', hf, rfl⟩ := h
    exact xw_glb_t hf this
  · exact xw_glb_f h (b h)
theorem yw_reg_c {post : Int32 → Prop} {v : SY} {t r : Int32} (a : th_reg t r → post 1) (b : ¬ th_reg t r → post 0) : wpY_isRegister post v t r := by
  by_cases h : th_reg t r
  · have := a h
    obtain ⟨t', r', ht, hr, rfl, rfl⟩ := h
    exact yw_reg_t ht hr this
  · exact yw_reg_f h (b h)
theorem yw_bit_c {post : Int32 → Prop} {v : SY} {f : Int32} (a : th_bit f → post 1) (b : ¬ th_bit f → post 0) : wpY_isBit post v f := by
  by_cases h : th_bit f
  · have := a h
    obtain ⟨f', hf, rfl⟩ := h
    exact yw_bit_t hf this
  · exact yw_bit_f h (b h)
theorem th_reg2 {t r s : Int32} (h1 : th_reg t r) (h2 : th_reg t s) : ∃ t' r' s' : Nat, t' < 3 ∧ r' < 4 ∧ s' < 4 ∧ t = nI t' ∧ r = nI r' ∧ s = nI s' := by
  obtain ⟨t', r', a, b, c, d⟩ := h1
  obtain ⟨_, s', _, e, _, g⟩ := h2
  exact ⟨t', r', s', a, b, e, c, d, g⟩
theorem th_Rok {k rm m p : Nat} {R G F S YF : Nat → Nat} {A : Nat → Prop} {xn tk yn : Nat → Int32} {i : Nat}
    (h : th_inv k rm m p R G F S YF A xn tk yn) (hi : i < 12) : R i ≤ rm ∧ rm ≤ 16 ∧ (R i ≠ 0 → A (R i)) := ⟨h.2.1.1 i, h.1.2.1, h.2.2.1.1.1 i hi⟩
theorem th_Gok {k rm m p : Nat} {R G F S YF : Nat → Nat} {A : Nat → Prop} {xn tk yn : Nat → Int32} {i : Nat}
    (h : th_inv k rm m p R G F S YF A xn tk yn) (hi : i < 2) : G i ≤ rm ∧ rm ≤ 16 ∧ (G i ≠ 0 → A (G i)) := ⟨h.2.1.2.1 i, h.1.2.1, h.2.2.1.1.2.1 i hi⟩
theorem th_Fok {k rm m p : Nat} {R G F S YF : Nat → Nat} {A : Nat → Prop} {xn tk yn : Nat → Int32} {s f : Nat}
    (h : th_inv k rm m p R G F S YF A xn tk yn) (hs : A s) (hf : f < 2) : F (2 * s + f) ≤ rm ∧ rm ≤ 16 ∧ (F (2 * s + f) ≠ 0 → A (F (2 * s + f))) ∧ YF (2 * S s + f) = S (F (2 * s + f)) :=
  ⟨h.2.1.2.2.1 _, h.1.2.1, h.2.2.1.1.2.2 s (by have := (h.2.2.1.2.1 s hs).1; omega) hs f hf, (h.2.2.1.2.1 s hs).2.2.2.2.2.2 f hf⟩
theorem th_m {k rm m p : Nat} {R G F S YF : Nat → Nat} {A : Nat → Prop} {xn tk yn : Nat → Int32}
    (h : th_inv k rm m p R G F S YF A xn tk yn) (hk : k + 5 ≤ 2561) : m ≤ 511 := by have := h.1.2.2.1; omega
theorem th_Sm {k rm m p : Nat} {R G F S YF : Nat → Nat} {A : Nat → Prop} {xn tk yn : Nat → Int32}
    (h : th_inv k rm m p R G F S YF A xn tk yn) (s : Nat) : S s ≤ m := h.2.2.2.2.2.2 s
theorem th_S0 {k rm m p : Nat} {R G F S YF : Nat → Nat} {A : Nat → Prop} {xn tk yn : Nat → Int32} {i : Nat}
    (h : th_inv k rm m p R G F S YF A xn tk yn) (hi : i < 12) : S (R i) = 0 ↔ R i = 0 := by
  refine ⟨fun z => ?_, fun z => by rw [z]; exact h.2.2.2.1⟩
  by_cases w : R i = 0
  · exact w
  · have := (h.2.2.1.2.1 _ ((th_Rok h hi).2.2 w)).2.2.2.1
    omega
theorem th_init {rm : Nat} (h4 : 4 ≤ rm) (h16 : rm ≤ 16) :
    th_inv 1 rm 0 0 (fun _ => 0) (fun _ => 0) (fun _ => 0) (fun _ => 0) (fun _ => 0) (fun _ => False) (fun _ => 0) (fun _ => 0) (fun _ => 0) := by
  refine ⟨⟨h4, h16, by omega, by omega⟩, ⟨fun _ => Nat.zero_le _, fun _ => Nat.zero_le _, fun _ => Nat.zero_le _, fun _ _ => rfl, fun _ _ => rfl⟩, ⟨⟨fun _ _ z => absurd rfl z, fun _ _ z => absurd rfl z, fun _ _ z => z.elim⟩, fun _ z => z.elim, fun _ _ z => z.elim⟩, rfl, rfl, fun _ => Nat.zero_le _, fun _ => Nat.zero_le _⟩
/-! the refusals: a thread, register, field or global that is not one -/
theorem xb_copy {post : Int32 → SX → Prop} {u : SX} {a b c : Int32} (h : ¬ (th_reg a b ∧ th_reg a c)) (k : post (-1) u) : wpX_copy post u a b c := by
  obtain ⟨_, _, _, _, _, _, _, _, _, _, _, _⟩ := u
  unfold wpX_copy
  refine xw_reg_c (fun h1 => br_f (by decide) (xw_reg_c (fun h2 => absurd ⟨h1, h2⟩ h) (fun _ => br_t rfl k))) (fun _ => br_t rfl k)
theorem yb_copy {post : Int32 → SY → Prop} {u : SY} {a b c : Int32} (h : ¬ (th_reg a b ∧ th_reg a c)) (k : post (-1) u) : wpY_copy post u a b c := by
  obtain ⟨_, _, _, _, _, _, _⟩ := u
  unfold wpY_copy
  refine yw_reg_c (fun h1 => br_f (by decide) (yw_reg_c (fun h2 => absurd ⟨h1, h2⟩ h) (fun _ => br_t rfl k))) (fun _ => br_t rfl k)
theorem xb_load {post : Int32 → SX → Prop} {u : SX} {a b c d : Int32} (h : ¬ (th_reg a b ∧ th_reg a c ∧ th_bit d)) (k : post (-1) u) : wpX_load post u a b c d := by
  obtain ⟨_, _, _, _, _, _, _, _, _, _, _, _⟩ := u
  unfold wpX_load
  refine xw_reg_c (fun h1 => br_f (by decide) (xw_reg_c (fun h2 => br_f (by decide) (xw_fld_c (fun h3 => absurd ⟨h1, h2, h3⟩ h) (fun _ => br_t rfl k))) (fun _ => br_t rfl k))) (fun _ => br_t rfl k)
theorem yb_load {post : Int32 → SY → Prop} {u : SY} {a b c d : Int32} (h : ¬ (th_reg a b ∧ th_reg a c ∧ th_bit d)) (k : post (-1) u) : wpY_load post u a b c d := by
  obtain ⟨_, _, _, _, _, _, _⟩ := u
  unfold wpY_load
  refine yw_reg_c (fun h1 => br_f (by decide) (yw_reg_c (fun h2 => br_f (by decide) (yw_bit_c (fun h3 => absurd ⟨h1, h2, h3⟩ h) (fun _ => br_t rfl k))) (fun _ => br_t rfl k))) (fun _ => br_t rfl k)
theorem xb_store {post : Int32 → SX → Prop} {u : SX} {a b c d : Int32} (h : ¬ (th_reg a b ∧ th_bit c ∧ th_reg a d)) (k : post (-1) u) : wpX_store post u a b c d := by
  obtain ⟨_, _, _, _, _, _, _, _, _, _, _, _⟩ := u
  unfold wpX_store
  refine xw_reg_c (fun h1 => br_f (by decide) (xw_fld_c (fun h2 => br_f (by decide) (xw_reg_c (fun h3 => absurd ⟨h1, h2, h3⟩ h) (fun _ => br_t rfl k))) (fun _ => br_t rfl k))) (fun _ => br_t rfl k)
theorem yb_store {post : Int32 → SY → Prop} {u : SY} {a b c d : Int32} (h : ¬ (th_reg a b ∧ th_bit c ∧ th_reg a d)) (k : post (-1) u) : wpY_store post u a b c d := by
  obtain ⟨_, _, _, _, _, _, _⟩ := u
  unfold wpY_store
  refine yw_reg_c (fun h1 => br_f (by decide) (yw_reg_c (fun h2 => br_f (by decide) (yw_bit_c (fun h3 => absurd ⟨h2, h3, h1⟩ h) (fun _ => br_t rfl k))) (fun _ => br_t rfl k))) (fun _ => br_t rfl k)
theorem xb_put {post : Int32 → SX → Prop} {u : SX} {a b c : Int32} (h : ¬ (th_reg a c ∧ th_bit b)) (k : post (-1) u) : wpX_put post u a b c := by
  obtain ⟨_, _, _, _, _, _, _, _, _, _, _, _⟩ := u
  unfold wpX_put
  refine xw_reg_c (fun h1 => br_f (by decide) (xw_glb_c (fun h2 => absurd ⟨h1, h2⟩ h) (fun _ => br_t rfl k))) (fun _ => br_t rfl k)
theorem yb_put {post : Int32 → SY → Prop} {u : SY} {a b c : Int32} (h : ¬ (th_reg a c ∧ th_bit b)) (k : post (-1) u) : wpY_put post u a b c := by
  obtain ⟨_, _, _, _, _, _, _⟩ := u
  unfold wpY_put
  refine yw_reg_c (fun h1 => br_f (by decide) (yw_bit_c (fun h2 => absurd ⟨h1, h2⟩ h) (fun _ => br_t rfl k))) (fun _ => br_t rfl k)
theorem xb_get {post : Int32 → SX → Prop} {u : SX} {a b c : Int32} (h : ¬ (th_reg a b ∧ th_bit c)) (k : post (-1) u) : wpX_get post u a b c := by
  obtain ⟨_, _, _, _, _, _, _, _, _, _, _, _⟩ := u
  unfold wpX_get
  refine xw_reg_c (fun h1 => br_f (by decide) (xw_glb_c (fun h2 => absurd ⟨h1, h2⟩ h) (fun _ => br_t rfl k))) (fun _ => br_t rfl k)
theorem yb_get {post : Int32 → SY → Prop} {u : SY} {a b c : Int32} (h : ¬ (th_reg a b ∧ th_bit c)) (k : post (-1) u) : wpY_get post u a b c := by
  obtain ⟨_, _, _, _, _, _, _⟩ := u
  unfold wpY_get
  refine yw_reg_c (fun h1 => br_f (by decide) (yw_bit_c (fun h2 => absurd ⟨h1, h2⟩ h) (fun _ => br_t rfl k))) (fun _ => br_t rfl k)
theorem xb_swap {post : Int32 → SX → Prop} {u : SX} {a b c d : Int32} (h : ¬ (th_reg a b ∧ th_reg c d)) (k : post (-1) u) : wpX_swap post u a b c d := by
  obtain ⟨_, _, _, _, _, _, _, _, _, _, _, _⟩ := u
  unfold wpX_swap
  refine xw_reg_c (fun h1 => br_f (by decide) (xw_reg_c (fun h2 => absurd ⟨h1, h2⟩ h) (fun _ => br_t rfl k))) (fun _ => br_t rfl k)
theorem yb_swap {post : Int32 → SY → Prop} {u : SY} {a b c d : Int32} (h : ¬ (th_reg a b ∧ th_reg c d)) (k : post (-1) u) : wpY_swap post u a b c d := by
  obtain ⟨_, _, _, _, _, _, _⟩ := u
  unfold wpY_swap
  refine yw_reg_c (fun h1 => br_f (by decide) (yw_reg_c (fun h2 => absurd ⟨h1, h2⟩ h) (fun _ => br_t rfl k))) (fun _ => br_t rfl k)
theorem xb_serialIn {post : Int32 → Prop} {u : SX} {a b c : Int32} (h : ¬ (th_reg a b ∧ th_bit c)) (k : post (-1)) : wpX_serialIn post u a b c := by
  obtain ⟨_, _, _, _, _, _, _, _, _, _, _, _⟩ := u
  unfold wpX_serialIn
  refine xw_reg_c (fun h1 => br_f (by decide) (xw_fld_c (fun h2 => absurd ⟨h1, h2⟩ h) (fun _ => br_t rfl k))) (fun _ => br_t rfl k)
theorem yb_serialIn {post : Int32 → Prop} {u : SY} {a b c : Int32} (h : ¬ (th_reg a b ∧ th_bit c)) (k : post (-1)) : wpY_serialIn post u a b c := by
  obtain ⟨_, _, _, _, _, _, _⟩ := u
  unfold wpY_serialIn
  refine yw_reg_c (fun h1 => br_f (by decide) (yw_bit_c (fun h2 => absurd ⟨h1, h2⟩ h) (fun _ => br_t rfl k))) (fun _ => br_t rfl k)
theorem xb_make {post : Int32 → SX → Prop} {u : SX} {a b c : Int32} (h : ¬ th_reg a b) (k : post (-1) u) : wpX_make post u a b c := by
  obtain ⟨_, _, _, _, _, _, _, _, _, _, _, _⟩ := u
  unfold wpX_make
  exact xw_reg_f h (br_t rfl k)
theorem yb_make {post : Int32 → SY → Prop} {u : SY} {a b c : Int32} (h : ¬ th_reg a b) (k : post (-1) u) : wpY_make post u a b c := by
  obtain ⟨_, _, _, _, _, _, _⟩ := u
  unfold wpY_make
  exact yw_reg_f h (br_t rfl k)
theorem xb_drop {post : Int32 → SX → Prop} {u : SX} {a b : Int32} (h : ¬ th_reg a b) (k : post (-1) u) : wpX_drop post u a b := by
  obtain ⟨_, _, _, _, _, _, _, _, _, _, _, _⟩ := u
  unfold wpX_drop
  exact xw_reg_f h (br_t rfl k)
theorem yb_drop {post : Int32 → SY → Prop} {u : SY} {a b : Int32} (h : ¬ th_reg a b) (k : post (-1) u) : wpY_drop post u a b := by
  obtain ⟨_, _, _, _, _, _, _⟩ := u
  unfold wpY_drop
  exact yw_reg_f h (br_t rfl k)
theorem xb_setNumber {post : Int32 → SX → Prop} {u : SX} {a b c : Int32} (h : ¬ th_reg a b) (k : post (-1) u) : wpX_setNumber post u a b c := by
  obtain ⟨_, _, _, _, _, _, _, _, _, _, _, _⟩ := u
  unfold wpX_setNumber
  exact xw_reg_f h (br_t rfl k)
theorem yb_setNumber {post : Int32 → SY → Prop} {u : SY} {a b c : Int32} (h : ¬ th_reg a b) (k : post (-1) u) : wpY_setNumber post u a b c := by
  obtain ⟨_, _, _, _, _, _, _⟩ := u
  unfold wpY_setNumber
  exact yw_reg_f h (br_t rfl k)
theorem xb_number {post : Int32 → Prop} {u : SX} {a b : Int32} (h : ¬ th_reg a b) (k : post 0) : wpX_number post u a b := by
  obtain ⟨_, _, _, _, _, _, _, _, _, _, _, _⟩ := u
  unfold wpX_number
  exact xw_reg_f h (br_t rfl k)
theorem yb_number {post : Int32 → Prop} {u : SY} {a b : Int32} (h : ¬ th_reg a b) (k : post 0) : wpY_number post u a b := by
  obtain ⟨_, _, _, _, _, _, _⟩ := u
  unfold wpY_number
  exact yw_reg_f h (br_t rfl k)
theorem xb_serial {post : Int32 → Prop} {u : SX} {a b : Int32} (h : ¬ th_reg a b) (k : post (-1)) : wpX_serial post u a b := by
  obtain ⟨_, _, _, _, _, _, _, _, _, _, _, _⟩ := u
  unfold wpX_serial
  exact xw_reg_f h (br_t rfl k)
theorem yb_serial {post : Int32 → Prop} {u : SY} {a b : Int32} (h : ¬ th_reg a b) (k : post (-1)) : wpY_serial post u a b := by
  obtain ⟨_, _, _, _, _, _, _⟩ := u
  unfold wpY_serial
  exact yw_reg_f h (br_t rfl k)
theorem xb_serialOf {post : Int32 → Prop} {u : SX} {a : Int32} (h : ¬ th_bit a) (k : post (-1)) : wpX_serialOf post u a := by
  obtain ⟨_, _, _, _, _, _, _, _, _, _, _, _⟩ := u
  unfold wpX_serialOf
  exact xw_glb_f h (br_t rfl k)
theorem yb_serialOf {post : Int32 → Prop} {u : SY} {a : Int32} (h : ¬ th_bit a) (k : post (-1)) : wpY_serialOf post u a := by
  obtain ⟨_, _, _, _, _, _, _⟩ := u
  unfold wpY_serialOf
  exact yw_bit_f h (br_t rfl k)
