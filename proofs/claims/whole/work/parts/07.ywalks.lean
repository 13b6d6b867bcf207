/-! the reference's marking and count, walked -/
section
variable {rm m : Nat} {R G F : Nat → Nat} {yn : Nat → Int32}
theorem yw_RB {post : SY → Prop} (hm : m ≤ 511) (hR : ∀ i, R i ≤ m) (hG : ∀ i, G i ≤ m)
    (K : ∀ a, ym_ok m R G F a → (∀ i, i < 12 → a (R i) ≠ 0) → (∀ i, i < 2 → a (G i) ≠ 0) → post (th_Y rm m R G F yn a)) :
    ∀ (d j : Nat) (a : Nat → Int32), j + d = 12 → ym_ok m R G F a → (∀ i, i < j → a (R i) ≠ 0) →
    wY_reachRoots_25 post (nI m) (nI rm) (d + 1) (nI j) (fun i => nI (F i)) yn a (fun i => nI (R i)) (fun i => nI (G i)) := by
  intro d
  induction d with
  | zero =>
    intro j a e ok r
    rw [wY_reachRoots_25]
    dsimp only
    have e2 : j = 12 := by omega
    subst e2
    have g0 := hG 0
    have g1 := hG 1
    refine br_t (nI_le (a := 12) (by omega) (by decide)) ?_
    rw [nI_clamp (n := G 0) (by omega), nI_clamp (n := G 1) (by omega), th_b1]
    refine ⟨vp_in_nI (n := G 0) (by omega) (by decide), nm_e ⟨vp_in_nI (n := G 1) (by omega) (by decide), nm_e ?_⟩⟩
    refine K _ (ym_put (ym_put ok (fun z => xm_sG (by omega) z)) (fun z => xm_sG (by omega) z)) (fun i hi => ym_keep (ym_keep (r i hi))) (fun i hi => ?_)
    have : i = 0 ∨ i = 1 := by omega
    rcases this with rfl | rfl
    · exact ym_keep ym_self
    · exact ym_self
  | succ d ih =>
    intro j a e ok r
    rw [wY_reachRoots_25]
    dsimp only
    have g0 := hR j
    refine br_f (nI_ge (b := 12) (by omega) (by decide)) ⟨vp_in_nI (by omega) (by decide), ?_⟩
    rw [nI_clamp (n := j) (by omega), nI_clamp (n := R j) (by omega), th_b1]
    refine ⟨vp_in_nI (n := R j) (by omega) (by decide), nm_e (nm_r (nI_1 j) ?_)⟩
    refine ih (j + 1) _ (by omega) (ym_put ok (fun z => xm_sR (by omega) z)) (fun i hi => ?_)
    by_cases w : i = j
    · rw [w]; exact ym_self
    · exact ym_keep (r i (by omega))
theorem yw_RA {post : SY → Prop} (hm : m ≤ 511) (hR : ∀ i, R i ≤ m) (hG : ∀ i, G i ≤ m)
    (K : ∀ a, ym_ok m R G F a → (∀ i, i < 12 → a (R i) ≠ 0) → (∀ i, i < 2 → a (G i) ≠ 0) → post (th_Y rm m R G F yn a)) :
    ∀ (d j : Nat) (a : Nat → Int32), j + d = m + 1 → (∀ i, i < j → a i = 0) →
    wY_reachRoots_2 post (nI m) (nI rm) (d + 1) (nI j) (fun i => nI (F i)) yn a (fun i => nI (R i)) (fun i => nI (G i)) := by
  intro d
  induction d with
  | zero =>
    intro j a e z
    rw [wY_reachRoots_2]
    dsimp only
    refine br_t (nI_lt (by omega) (by omega)) ⟨13, yw_RB hm hR hG K 12 0 a rfl (fun i hi w => absurd (z i (by omega)) w) (fun i hi => absurd hi (Nat.not_lt_zero i))⟩
  | succ d ih =>
    intro j a e z
    rw [wY_reachRoots_2]
    dsimp only
    rw [nI_clamp (n := j) (by omega), th_b0]
    refine br_f (nI_nlt (by omega) (by omega)) ⟨vp_in_nI (by omega) (by decide), nm_e (nm_r (nI_1 j) ?_)⟩
    refine ih (j + 1) _ (by omega) (fun i hi => ?_)
    by_cases w : i = j
    · rw [w, th_us]
    · rw [th_un w]; exact z i (by omega)
theorem yw_roots {post : SY → Prop} {a : Nat → Int32} (hm : m ≤ 511) (hR : ∀ i, R i ≤ m) (hG : ∀ i, G i ≤ m)
    (K : ∀ a, ym_ok m R G F a → (∀ i, i < 12 → a (R i) ≠ 0) → (∀ i, i < 2 → a (G i) ≠ 0) → post (th_Y rm m R G F yn a)) :
    wpY_reachRoots post (th_Y rm m R G F yn a) := by
  unfold wpY_reachRoots
  dsimp only
  exact ⟨m + 2, yw_RA hm hR hG K (m + 1) 0 a (by omega) (fun i hi => absurd hi (Nat.not_lt_zero i))⟩
/-- the state of one round over the fields: nothing new so far, or more marks than at its start -/
def yw_I (m : Nat) (R G F : Nat → Nat) (a0 : Nat → Int32) (j : Nat) (b : Int32) (a : Nat → Int32) : Prop :=
  ym_ok m R G F a ∧ ym_rt R G a ∧ ((b = 0 ∧ a = a0 ∧ ym_cl F a j) ∨ (b = 1 ∧ th_cnt a0 m < th_cnt a m))
theorem yw_I_skip {a0 a : Nat → Int32} {j : Nat} {b : Int32} (h : yw_I m R G F a0 j b a) (hc : a j ≠ 0 → a (F (2 * j)) ≠ 0 ∧ a (F (2 * j + 1)) ≠ 0) : yw_I m R G F a0 (j + 1) b a := by
  refine ⟨h.1, h.2.1, ?_⟩
  rcases h.2.2 with ⟨h1, h2, h3⟩ | h1
  · refine Or.inl ⟨h1, h2, fun i i1 i2 z => ?_⟩
    by_cases w : i = j
    · rw [w] at z ⊢; exact hc z
    · exact h3 i i1 (by omega) z
  · exact Or.inr h1
theorem yw_I_put {a0 a : Nat → Int32} {j : Nat} {b : Int32} (hF : ∀ i, F i ≤ m) (h1 : 1 ≤ j) (h2 : j ≤ m) (h : yw_I m R G F a0 j b a) (ha : a j ≠ 0) (hz : a (F (2 * j)) = 0 ∨ a (F (2 * j + 1)) = 0) :
    yw_I m R G F a0 (j + 1) 1 (upd (upd a (F (2 * j)) 1) (F (2 * j + 1)) 1) := by
  refine ⟨ym_put2 h.1 h1 h2 ha, ym_rt_k (ym_rt_k h.2.1), Or.inr ⟨rfl, ?_⟩⟩
  have w := ym_c2 h.2.1.1 (hF _) (hF _) hz
  rcases h.2.2 with ⟨_, e, _⟩ | ⟨_, e⟩
  · rw [e] at w ⊢; exact w
  · omega
theorem yw_FA {post : Int32 → SY → Prop} {a0 : Nat → Int32} (hm : m ≤ 511) (hF : ∀ i, F i ≤ m)
    (K : ∀ b a, yw_I m R G F a0 (m + 1) b a → post b (th_Y rm m R G F yn a)) :
    ∀ (d j : Nat) (b : Int32) (a : Nat → Int32), 1 ≤ j → j + d = m + 1 → yw_I m R G F a0 j b a →
    wY_reachFields_4 post (nI m) (nI rm) (d + 1) b (nI j) (fun i => nI (F i)) yn a (fun i => nI (R i)) (fun i => nI (G i)) := by
  intro d
  induction d with
  | zero =>
    intro j b a h1 e h
    rw [wY_reachFields_4]
    dsimp only
    have e2 : j = m + 1 := by omega
    subst e2
    have hb : narrow .boolean (.int b) = .int b := by
      rcases h.2.2 with ⟨e, _⟩ | ⟨e, _⟩ <;> rw [e] <;> rfl
    exact br_t (nI_lt (by omega) (by omega)) ⟨hb, K b a h⟩
  | succ d ih =>
    intro j b a h1 e h
    rw [wY_reachFields_4]
    dsimp only
    have f0 := hF (2 * j)
    have f1 := hF (2 * j + 1)
    have put : a j ≠ 0 → (a (F (2 * j)) = 0 ∨ a (F (2 * j + 1)) = 0) →
        wY_reachFields_61 post (wY_reachFields_4 post (nI m) (nI rm) (d + 1)) (nI j) (nI (F (2 * j))) (nI (F (2 * j + 1))) (nI m) (nI rm) (fun i => nI (F i)) yn a (fun i => nI (R i)) (fun i => nI (G i)) := by
      intro ha hz
      unfold wY_reachFields_61
      rw [nI_clamp (n := F (2 * j)) (by omega), nI_clamp (n := F (2 * j + 1)) (by omega), th_b1]
      exact ⟨vp_in_nI (by omega) (by decide), nm_e ⟨vp_in_nI (by omega) (by decide), nm_e (nm_r (nI_1 j) (ih (j + 1) 1 _ (by omega) (by omega) (yw_I_put hF h1 (by omega) h ha hz)))⟩⟩
    have skip : (a j ≠ 0 → a (F (2 * j)) ≠ 0 ∧ a (F (2 * j + 1)) ≠ 0) → wY_reachFields_4 post (nI m) (nI rm) (d + 1) b (nI (j + 1)) (fun i => nI (F i)) yn a (fun i => nI (R i)) (fun i => nI (G i)) :=
      fun hc => ih (j + 1) b a (by omega) (by omega) (yw_I_skip h hc)
    refine br_f (nI_nlt (by omega) (by omega)) ?_
    rw [th_d2', nI_1 (2 * j), nI_clamp (n := 2 * j) (by omega), nI_clamp (n := 2 * j + 1) (by omega)]
    refine ⟨vp_in_nI (by omega) (by decide), nm_e ⟨vp_in_nI (by omega) (by decide), nm_e ⟨vp_in_nI (by omega) (by decide), ?_⟩⟩⟩
    rw [nI_clamp (n := j) (by omega), nI_clamp (n := F (2 * j)) (by omega), nI_clamp (n := F (2 * j + 1)) (by omega)]
    by_cases z : a j = 0
    · exact br_t z (nm_r (nI_1 j) (skip (fun w => absurd z w)))
    · refine br_f z ⟨vp_in_nI (by omega) (by decide), ?_⟩
      by_cases z1 : a (F (2 * j)) = 0
      · exact br_t z1 (put z (Or.inl z1))
      · refine br_f z1 ⟨vp_in_nI (by omega) (by decide), ?_⟩
        by_cases z2 : a (F (2 * j + 1)) = 0
        · exact br_t z2 (put z (Or.inr z2))
        · exact br_f z2 (nm_r (nI_1 j) (skip (fun _ => ⟨z1, z2⟩)))
theorem yw_fields {post : Int32 → SY → Prop} {a : Nat → Int32} (hm : m ≤ 511) (hF : ∀ i, F i ≤ m) (ok : ym_ok m R G F a) (rt : ym_rt R G a)
    (K : ∀ b a', yw_I m R G F a (m + 1) b a' → post b (th_Y rm m R G F yn a')) : wpY_reachFields post (th_Y rm m R G F yn a) := by
  unfold wpY_reachFields
  dsimp only
  exact ⟨m + 1, yw_FA hm hF K m 1 0 a (by omega) (by omega) ⟨ok, rt, Or.inl ⟨rfl, rfl, fun i i1 i2 => by omega⟩⟩⟩
theorem yw_LB {post : Int32 → SY → Prop} {a : Nat → Int32} (hm : m ≤ 511)
    (K : post (nI (th_cnt a m)) (th_Y rm m R G F yn a)) :
    ∀ (d j : Nat), 1 ≤ j → j + d = m + 1 → wY_live_41 post (nI m) (nI rm) (fun i => nI (F i)) yn a (fun i => nI (R i)) (fun i => nI (G i)) (d + 1) (nI (th_cnt a (j - 1))) (nI j) := by
  intro d
  induction d with
  | zero =>
    intro j h1 e
    rw [wY_live_41]
    dsimp only
    have e2 : j = m + 1 := by omega
    subst e2
    exact br_t (nI_lt (by omega) (by omega)) K
  | succ d ih =>
    intro j h1 e
    rw [wY_live_41]
    dsimp only
    obtain ⟨i, rfl⟩ : ∃ i, j = i + 1 := ⟨j - 1, by omega⟩
    have hi := ih (i + 1 + 1) (by omega) (by omega)
    refine br_f (nI_nlt (by omega) (by omega)) ⟨vp_in_nI (by omega) (by decide), ?_⟩
    rw [nI_clamp (n := i + 1) (by omega)]
    by_cases z : a (i + 1) = 0
    · refine br_t z (nm_r (nI_1 (i + 1)) ?_)
      have e3 : th_cnt a (i + 1 + 1 - 1) = th_cnt a (i + 1 - 1) := by
        show th_cnt a i + (if a (i + 1) = 0 then 0 else 1) = th_cnt a i
        rw [if_pos z, Nat.add_zero]
      rw [e3] at hi
      exact hi
    · have e3 : th_cnt a (i + 1 + 1 - 1) = th_cnt a (i + 1 - 1) + 1 := by
        show th_cnt a i + (if a (i + 1) = 0 then 0 else 1) = th_cnt a i + 1
        rw [if_neg z]
      rw [e3] at hi
      exact br_f z (nm_r (nI_1 _) (nm_r (nI_1 (i + 1)) hi))
theorem yw_LA {post : Int32 → SY → Prop} (hm : m ≤ 511) (hR : ∀ i, R i ≤ m) (hG : ∀ i, G i ≤ m) (hF : ∀ i, F i ≤ m)
    (K : ∀ a, th_lst R G F a m → post (nI (th_cnt a m)) (th_Y rm m R G F yn a)) :
    ∀ (d j : Nat) (b : Int32) (a : Nat → Int32), j + d = 512 → ym_ok m R G F a → ym_rt R G a → ((b = 0 ∧ ym_cl F a (m + 1)) ∨ (b = 1 ∧ j ≤ th_cnt a m)) →
    wY_live_15 post (d + 1) b (nI j) (nI m) (nI rm) (fun i => nI (F i)) yn a (fun i => nI (R i)) (fun i => nI (G i)) := by
  have out : ∀ a, ym_ok m R G F a → ym_rt R G a → ym_cl F a (m + 1) → ∃ n, wY_live_41 post (nI m) (nI rm) (fun i => nI (F i)) yn a (fun i => nI (R i)) (fun i => nI (G i)) n 0 1 :=
    fun a ok rt cl => ⟨m + 1, yw_LB hm (K a (ym_end ok rt cl hR hG hF)) m 1 (by omega) (by omega)⟩
  intro d
  induction d with
  | zero =>
    intro j b a e ok rt h
    rw [wY_live_15]
    dsimp only
    have e2 : j = 512 := by omega
    subst e2
    refine br_t (nI_le (a := 512) (by omega) (by decide)) ?_
    rcases h with ⟨_, cl⟩ | ⟨_, w⟩
    · exact out a ok rt cl
    · have := th_cnt_le a m
      omega
  | succ d ih =>
    intro j b a e ok rt h
    rw [wY_live_15]
    dsimp only
    refine br_f (nI_ge (b := 512) (by omega) (by decide)) ?_
    rcases h with ⟨rfl, cl⟩ | ⟨rfl, w⟩
    · exact br_t rfl (out a ok rt cl)
    · refine br_f (by decide) (yw_fields hm hF ok rt (fun b a' h => ?_))
      refine nm_r (nI_1 j) ?_
      refine ih (j + 1) b a' (by omega) h.1 h.2.1 ?_
      rcases h.2.2 with ⟨h1, h2, h3⟩ | ⟨h1, h2⟩
      · exact Or.inl ⟨h1, h3⟩
      · exact Or.inr ⟨h1, by omega⟩
/-- the reference's live answers the count of the least closed set -/
theorem yw_live {post : Int32 → SY → Prop} {a : Nat → Int32} (hm : m ≤ 511) (hR : ∀ i, R i ≤ m) (hG : ∀ i, G i ≤ m) (hF : ∀ i, F i ≤ m)
    (K : ∀ a, th_lst R G F a m → post (nI (th_cnt a m)) (th_Y rm m R G F yn a)) : wpY_live post (th_Y rm m R G F yn a) := by
  unfold wpY_live
  dsimp only
  refine yw_roots hm hR hG (fun a ok r1 r2 => ?_)
  dsimp only
  rw [th_b1]
  refine nm_e ?_
  exact ⟨513, yw_LA hm hR hG hF K 512 0 1 _ (by omega) (ym_put ok (fun z => absurd rfl z)) ⟨ym_self, fun i hi => ym_keep (r1 i hi), fun i hi => ym_keep (r2 i hi)⟩ (Or.inr ⟨rfl, Nat.zero_le _⟩)⟩
end
