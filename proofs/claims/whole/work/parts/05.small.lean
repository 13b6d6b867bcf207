/-! states, small numbers, the small methods -/
abbrev th_X (c : Int32) (rm m p : Nat) (R G F S : Nat → Nat) (xn tk mk rc : Nat → Int32) : SX :=
  (c, nI rm, nI m, nI p, (fun i => nI (R i)), (fun i => nI (G i)), xn, (fun i => nI (S i)), (fun i => nI (F i)), tk, mk, rc)
abbrev th_Y (rm m : Nat) (R G F : Nat → Nat) (yn yr : Nat → Int32) : SY :=
  (nI m, nI rm, (fun i => nI (F i)), yn, yr, (fun i => nI (R i)), (fun i => nI (G i)))
theorem th_updS {R S : Nat → Nat} {c x : Nat} : upd (fun i => nI (S (R i))) c (nI (S x)) = fun i => nI (S (th_up R c x i)) := by
  funext j
  by_cases e : j = c
  · rw [e, th_us, th_ups]
  · rw [th_un e, th_upn e]
theorem th_b1 : vp_nar .boolean 1 = 1 := by decide
theorem th_b0 : vp_nar .boolean 0 = 0 := by decide
theorem th_c4 (t r : Nat) : nI t * 4 + nI r = nI (4 * t + r) := by
  rw [show (4 : Int32) = nI 4 from rfl, pk_mul, nI_add, Nat.mul_comm]
theorem th_c4' (t r : Nat) : 4 * nI t + nI r = nI (4 * t + r) := by
  rw [show (4 : Int32) = nI 4 from rfl, pk_mul, nI_add]
theorem th_c2 (t r : Nat) : nI t * 2 + nI r = nI (2 * t + r) := by
  rw [show (2 : Int32) = nI 2 from rfl, pk_mul, nI_add, Nat.mul_comm]
theorem th_c2' (t r : Nat) : 2 * nI t + nI r = nI (2 * t + r) := by
  rw [show (2 : Int32) = nI 2 from rfl, pk_mul, nI_add]
theorem th_d2 (t : Nat) : nI t * 2 = nI (2 * t) := by
  rw [show (2 : Int32) = nI 2 from rfl, pk_mul, Nat.mul_comm]
theorem th_d2' (t : Nat) : 2 * nI t = nI (2 * t) := by
  rw [show (2 : Int32) = nI 2 from rfl, pk_mul]
theorem th_of {x : Int32} {n : Nat} (hn : n < 2 ^ 31) (a : ¬ x < 0) (b : ¬ nI n ≤ x) : ∃ j, j < n ∧ x = nI j := by
  rcases pk_ix x hn with h | h | h
  · exact absurd h a
  · exact absurd h b
  · exact h
theorem th_of' {x : Int32} {n : Nat} (hn : n < 2 ^ 30) (a : ¬ x < 0) (b : ¬ nI n < x) : ∃ j, j < n + 1 ∧ x = nI j := by
  obtain ⟨j, hj, rfl⟩ := nI_of a
  refine ⟨j, ?_, rfl⟩
  rw [nI_ltI (by omega) hj] at b
  omega
/-- a thread and a register; a field or a global -/
def th_reg (t r : Int32) : Prop := ∃ t' r' : Nat, t' < 3 ∧ r' < 4 ∧ t = nI t' ∧ r = nI r'
def th_bit (f : Int32) : Prop := ∃ f' : Nat, f' < 2 ∧ f = nI f'
theorem xw_reg_t {post : Int32 → Prop} {t r : Nat} (ht : t < 3) (hr : r < 4) (h : post 1) : wpX_isRegister post (nI t) (nI r) := by
  unfold wpX_isRegister wpX_isThread
  exact br_f (nI_pos (by omega)) (br_f (nI_ge (b := 3) ht (by decide)) (br_f (by decide) (br_f (nI_pos (by omega)) (br_f (nI_ge (b := 4) hr (by decide)) h))))
theorem xw_reg_f {post : Int32 → Prop} {t r : Int32} (hn : ¬ th_reg t r) (h : post 0) : wpX_isRegister post t r := by
  unfold wpX_isRegister wpX_isThread
  refine br_c (fun _ => br_t rfl h) (fun a => br_c (fun _ => br_t rfl h) (fun b => br_f (by decide) (br_c (fun _ => h) (fun c => br_c (fun _ => h) (fun d => absurd ?_ hn)))))
  obtain ⟨t', h1, e1⟩ := th_of (n := 3) (by decide) a b
  obtain ⟨r', h2, e2⟩ := th_of (n := 4) (by decide) c d
  exact ⟨t', r', h1, h2, e1, e2⟩
theorem xw_fld_t {post : Int32 → Prop} {f : Nat} (hf : f < 2) (h : post 1) : wpX_isField post (nI f) := by
  unfold wpX_isField
  exact br_f (nI_pos (by omega)) (br_f (nI_ge (b := 2) hf (by decide)) h)
theorem xw_fld_f {post : Int32 → Prop} {f : Int32} (hn : ¬ th_bit f) (h : post 0) : wpX_isField post f := by
  unfold wpX_isField
  exact br_c (fun _ => h) (fun a => br_c (fun _ => h) (fun b => absurd (th_of (n := 2) (by decide) a b) hn))
theorem xw_glb_t {post : Int32 → Prop} {f : Nat} (hf : f < 2) (h : post 1) : wpX_isGlobal post (nI f) := by
  unfold wpX_isGlobal
  exact br_f (nI_pos (by omega)) (br_f (nI_ge (b := 2) hf (by decide)) h)
theorem xw_glb_f {post : Int32 → Prop} {f : Int32} (hn : ¬ th_bit f) (h : post 0) : wpX_isGlobal post f := by
  unfold wpX_isGlobal
  exact br_c (fun _ => h) (fun a => br_c (fun _ => h) (fun b => absurd (th_of (n := 2) (by decide) a b) hn))
theorem xw_cell {post : Int32 → Prop} {t r : Nat} (h : post (nI (4 * t + r))) : wpX_registerCell post (nI t) (nI r) := by
  unfold wpX_registerCell
  rw [th_c4]
  exact h
theorem xw_fcell {post : Int32 → Prop} {s f : Nat} (h : post (nI (2 * s + f))) : wpX_fieldCell post (nI s) (nI f) := by
  unfold wpX_fieldCell
  rw [th_c2]
  exact h
theorem yw_reg_t {post : Int32 → Prop} {v : SY} {t r : Nat} (ht : t < 3) (hr : r < 4) (h : post 1) : wpY_isRegister post v (nI t) (nI r) := by
  obtain ⟨_, _, _, _, _, _, _⟩ := v
  unfold wpY_isRegister
  exact br_f (nI_pos (by omega)) (br_f (nI_nlt (a := 2) (by omega) (by decide)) (br_f (nI_pos (by omega)) (br_f (nI_nlt (a := 3) (by omega) (by decide)) h)))
theorem yw_reg_f {post : Int32 → Prop} {v : SY} {t r : Int32} (hn : ¬ th_reg t r) (h : post 0) : wpY_isRegister post v t r := by
  obtain ⟨_, _, _, _, _, _, _⟩ := v
  unfold wpY_isRegister
  refine br_c (fun _ => h) (fun a => br_c (fun _ => h) (fun b => br_c (fun _ => h) (fun c => br_c (fun _ => h) (fun d => absurd ?_ hn))))
  obtain ⟨t', h1, e1⟩ := th_of' (n := 2) (by decide) a b
  obtain ⟨r', h2, e2⟩ := th_of' (n := 3) (by decide) c d
  exact ⟨t', r', h1, h2, e1, e2⟩
theorem yw_bit_t {post : Int32 → Prop} {v : SY} {f : Nat} (hf : f < 2) (h : post 1) : wpY_isBit post v (nI f) := by
  obtain ⟨_, _, _, _, _, _, _⟩ := v
  unfold wpY_isBit
  have : f = 0 ∨ f = 1 := by omega
  rcases this with rfl | rfl
  · exact br_t rfl h
  · exact br_f (by decide) (br_t rfl h)
theorem yw_bit_f {post : Int32 → Prop} {v : SY} {f : Int32} (hn : ¬ th_bit f) (h : post 0) : wpY_isBit post v f := by
  obtain ⟨_, _, _, _, _, _, _⟩ := v
  unfold wpY_isBit
  exact br_f (fun e => hn ⟨0, by omega, e⟩) (br_f (fun e => hn ⟨1, by omega, e⟩) h)
