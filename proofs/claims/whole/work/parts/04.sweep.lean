/-! the sweep, as mathematics alone -/
def sw_cov (rm p j s : Nat) : Prop := (p < s ∧ s ≤ p + j) ∨ s + rm ≤ p + j
/-- j steps of a sweep from p: it stands at q; tk0 has become tk -/
def sw_ok (rm p : Nat) (mk tk0 : Nat → Int32) (j q : Nat) (tk : Nat → Int32) : Prop :=
  q ≤ rm ∧ (∀ s, tk s = tk0 s ∨ (tk s = 0 ∧ mk s = 0)) ∧
  (j ≤ rm → ((p + j ≤ rm ∧ q = p + j) ∨ (rm < p + j ∧ q + rm = p + j)) ∧ ∀ s, 1 ≤ s → s ≤ rm → sw_cov rm p j s → mk s ≠ 0 ∨ tk s = 0)
theorem sw_0 {rm p : Nat} {mk tk : Nat → Int32} (hp : p ≤ rm) : sw_ok rm p mk tk 0 p tk := by
  refine ⟨hp, fun _ => Or.inl rfl, fun _ => ⟨Or.inl ⟨hp, rfl⟩, fun s h1 h2 c => ?_⟩⟩
  unfold sw_cov at c
  omega
theorem sw_step {rm p : Nat} {mk tk0 tk tk' : Nat → Int32} {j q q' : Nat} (hp : p ≤ rm) (h4 : 4 ≤ rm) (h : sw_ok rm p mk tk0 j q tk)
    (hq : (q < rm ∧ q' = q + 1) ∨ (rm ≤ q ∧ q' = 1)) (ht : (mk q' = 0 ∧ tk' = upd tk q' 0) ∨ (mk q' ≠ 0 ∧ tk' = tk)) : sw_ok rm p mk tk0 (j + 1) q' tk' := by
  obtain ⟨a, b, c⟩ := h
  refine ⟨by omega, fun s => ?_, fun hj => ?_⟩
  · rcases ht with ⟨m, e⟩ | ⟨m, e⟩
    · by_cases z : s = q'
      · rw [e, z, th_us]; exact Or.inr ⟨rfl, m⟩
      · rw [e, th_un z]; exact b s
    · rw [e]; exact b s
  · obtain ⟨d, g⟩ := c (by omega)
    refine ⟨by omega, fun s h1 h2 w => ?_⟩
    by_cases z : s = q'
    · rw [z]
      rcases ht with ⟨m, e⟩ | ⟨m, e⟩
      · rw [e, th_us]; exact Or.inr rfl
      · exact Or.inl m
    · have w' : sw_cov rm p j s := by
        unfold sw_cov at w ⊢
        omega
      rcases ht with ⟨m, e⟩ | ⟨m, e⟩
      · rw [e, th_un z]; exact g s h1 h2 w'
      · rw [e]; exact g s h1 h2 w'
theorem sw_all {rm p : Nat} {mk tk0 tk : Nat → Int32} {q : Nat} (h : sw_ok rm p mk tk0 rm q tk) : ∀ s, 1 ≤ s → s ≤ rm → mk s ≠ 0 ∨ tk s = 0 := by
  intro s h1 h2
  refine (h.2.2 (Nat.le_refl rm)).2 s h1 h2 ?_
  unfold sw_cov
  omega
theorem sw_keep {rm p : Nat} {mk tk0 tk : Nat → Int32} {j q : Nat} (h : sw_ok rm p mk tk0 j q tk) : ∀ s, 1 ≤ s → s ≤ rm → mk s ≠ 0 → tk s = tk0 s := by
  intro s _ _ z
  rcases h.2.1 s with e | ⟨_, e⟩
  · exact e
  · exact absurd e z
