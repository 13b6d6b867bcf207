/-! the owed statements -/
theorem th_upS {R S : Nat → Nat} {c x : Nat} : th_up (fun i => S (R i)) c (S x) = fun i => S (th_up R c x i) := by
  funext j
  by_cases e : j = c
  · rw [e, th_ups, th_ups]
  · rw [th_upn e, th_upn e]
def i_Rel (k : Nat) (u : SX) (v : SY) : Prop :=
  ∃ (c : Int32) (rm m p : Nat) (R G F S YF : Nat → Nat) (A : Nat → Prop) (xn tk mk rc yn yr : Nat → Int32),
    u = th_X c rm m p R G F S xn tk mk rc ∧ v = th_Y rm m (fun i => S (R i)) (fun i => S (G i)) YF yn yr ∧ th_inv k rm m p R G F S YF A xn tk yn
theorem i_up {k : Nat} {u : SX} {v : SY} (h : i_Rel k u v) : i_Rel (k + 5) u v := by
  obtain ⟨c, rm, m, p, R, G, F, S, YF, A, xn, tk, mk, rc, yn, yr, e1, e2, h⟩ := h
  exact ⟨c, rm, m, p, R, G, F, S, YF, A, xn, tk, mk, rc, yn, yr, e1, e2, th_up1 h (by omega)⟩
theorem th_rel {c : Int32} {k rm m p : Nat} {R G F S YF : Nat → Nat} {A : Nat → Prop} {xn tk mk rc yn yr : Nat → Int32} (h : th_inv k rm m p R G F S YF A xn tk yn) :
    i_Rel k (th_X c rm m p R G F S xn tk mk rc) (th_Y rm m (fun i => S (R i)) (fun i => S (G i)) YF yn yr) :=
  ⟨c, rm, m, p, R, G, F, S, YF, A, xn, tk, mk, rc, yn, yr, rfl, rfl, h⟩
theorem th_relR {c : Int32} {k rm m p i x : Nat} {R G F S YF : Nat → Nat} {A : Nat → Prop} {xn tk mk rc yn yr : Nat → Int32} (h : th_inv k rm m p (th_up R i x) G F S YF A xn tk yn) :
    i_Rel k (th_X c rm m p (th_up R i x) G F S xn tk mk rc) (th_Y rm m (th_up (fun i => S (R i)) i (S x)) (fun i => S (G i)) YF yn yr) := by
  rw [th_upS]
  exact th_rel h
theorem th_relG {c : Int32} {k rm m p i x : Nat} {R G F S YF : Nat → Nat} {A : Nat → Prop} {xn tk mk rc yn yr : Nat → Int32} (h : th_inv k rm m p R (th_up G i x) F S YF A xn tk yn) :
    i_Rel k (th_X c rm m p R (th_up G i x) F S xn tk mk rc) (th_Y rm m (fun i => S (R i)) (th_up (fun i => S (G i)) i (S x)) YF yn yr) := by
  rw [th_upS]
  exact th_rel h
theorem i_vc_copy {k : Nat} {u : SX} {v : SY} (I : i_Rel k u v) (hk : k + 5 ≤ 2561) (v1 : Int32) (v2 : Int32) (v3 : Int32) : wpX_copy (fun r u' => wpY_copy (fun r' v' => r' = r ∧ i_Rel (k + 5) u' v') v v1 v2 v3) u v1 v2 v3 := by
  by_cases hh : th_reg v1 v2 ∧ th_reg v1 v3
  · obtain ⟨t, r, s, ht, hr, hs, rfl, rfl, rfl⟩ := th_reg2 hh.1 hh.2
    obtain ⟨c, rm, m, p, R, G, F, S, YF, A, xn, tk, mk, rc, yn, yr, rfl, rfl, h⟩ := I
    have w := th_Rok h (i := 4 * t + s) (by omega)
    exact xg_copy ht hr hs (yg_copy ht hr hs ⟨rfl, th_relR (th_setR h (by omega) w.1 w.2.2 (by omega))⟩)
  · exact xb_copy hh (yb_copy hh ⟨rfl, i_up I⟩)
theorem i_vc_drop {k : Nat} {u : SX} {v : SY} (I : i_Rel k u v) (hk : k + 5 ≤ 2561) (v1 : Int32) (v2 : Int32) : wpX_drop (fun r u' => wpY_drop (fun r' v' => r' = r ∧ i_Rel (k + 5) u' v') v v1 v2) u v1 v2 := by
  by_cases hh : th_reg v1 v2
  · obtain ⟨t, r, ht, hr, rfl, rfl⟩ := hh
    obtain ⟨c, rm, m, p, R, G, F, S, YF, A, xn, tk, mk, rc, yn, yr, rfl, rfl, h⟩ := I
    refine xg_drop ht hr (yg_drop ht hr ⟨rfl, ?_⟩)
    have e : S 0 = 0 := h.2.2.2.1
    have w := th_relR (c := c) (mk := mk) (rc := rc) (yr := yr) (th_setR h (c := 4 * t + r) (x := 0) (k' := k + 5) (by omega) (Nat.zero_le _) (fun z => absurd rfl z) (by omega))
    rw [e] at w
    exact w
  · exact xb_drop hh (yb_drop hh ⟨rfl, i_up I⟩)
theorem i_vc_load {k : Nat} {u : SX} {v : SY} (I : i_Rel k u v) (hk : k + 5 ≤ 2561) (v1 : Int32) (v2 : Int32) (v3 : Int32) (v4 : Int32) : wpX_load (fun r u' => wpY_load (fun r' v' => r' = r ∧ i_Rel (k + 5) u' v') v v1 v2 v3 v4) u v1 v2 v3 v4 := by
  by_cases hh : th_reg v1 v2 ∧ th_reg v1 v3 ∧ th_bit v4
  · obtain ⟨t, r, s, ht, hr, hs, rfl, rfl, rfl⟩ := th_reg2 hh.1 hh.2.1
    obtain ⟨f, hf, rfl⟩ := hh.2.2
    obtain ⟨c, rm, m, p, R, G, F, S, YF, A, xn, tk, mk, rc, yn, yr, rfl, rfl, h⟩ := I
    have w := th_Rok h (i := 4 * t + s) (by omega)
    have hm := th_m h hk
    have hS := th_Sm h (R (4 * t + s))
    have z0 := th_S0 h (i := 4 * t + s) (by omega)
    by_cases z : R (4 * t + s) = 0
    · exact xg_load0 ht hr hs hf (by omega) z (yg_load0 ht hr hs hf (by omega) (z0.mpr z) ⟨rfl, th_rel (th_up1 h (by omega))⟩)
    · have q := th_Fok h (f := f) (w.2.2 z) hf
      refine xg_load ht hr hs hf (by omega) z (yg_load ht hr hs hf (by omega) (fun y => z (z0.mp y)) ⟨rfl, ?_⟩)
      rw [q.2.2.2]
      exact th_relR (th_setR h (by omega) q.1 q.2.2.1 (by omega))
  · exact xb_load hh (yb_load hh ⟨rfl, i_up I⟩)
theorem i_vc_store {k : Nat} {u : SX} {v : SY} (I : i_Rel k u v) (hk : k + 5 ≤ 2561) (v1 : Int32) (v2 : Int32) (v3 : Int32) (v4 : Int32) : wpX_store (fun r u' => wpY_store (fun r' v' => r' = r ∧ i_Rel (k + 5) u' v') v v1 v2 v3 v4) u v1 v2 v3 v4 := by
  by_cases hh : th_reg v1 v2 ∧ th_bit v3 ∧ th_reg v1 v4
  · obtain ⟨t, s, r, ht, hs, hr, rfl, rfl, rfl⟩ := th_reg2 hh.1 hh.2.2
    obtain ⟨f, hf, rfl⟩ := hh.2.1
    obtain ⟨c, rm, m, p, R, G, F, S, YF, A, xn, tk, mk, rc, yn, yr, rfl, rfl, h⟩ := I
    have w := th_Rok h (i := 4 * t + s) (by omega)
    have y := th_Rok h (i := 4 * t + r) (by omega)
    have hm := th_m h hk
    have hS := th_Sm h (R (4 * t + s))
    have z0 := th_S0 h (i := 4 * t + s) (by omega)
    by_cases z : R (4 * t + s) = 0
    · exact xg_store0 ht hr hs hf (by omega) z (yg_store0 ht hr hs hf (by omega) (z0.mpr z) ⟨rfl, th_rel (th_up1 h (by omega))⟩)
    · exact xg_store ht hr hs hf (by omega) z (yg_store ht hr hs hf (by omega) (fun y => z (z0.mp y)) ⟨rfl, th_rel (th_setF h (w.2.2 z) hf y.1 y.2.2 (by omega))⟩)
  · exact xb_store hh (yb_store hh ⟨rfl, i_up I⟩)
theorem i_vc_put {k : Nat} {u : SX} {v : SY} (I : i_Rel k u v) (hk : k + 5 ≤ 2561) (v1 : Int32) (v2 : Int32) (v3 : Int32) : wpX_put (fun r u' => wpY_put (fun r' v' => r' = r ∧ i_Rel (k + 5) u' v') v v1 v2 v3) u v1 v2 v3 := by
  by_cases hh : th_reg v1 v3 ∧ th_bit v2
  · obtain ⟨⟨t, r, ht, hr, rfl, rfl⟩, g, hg, rfl⟩ := hh
    obtain ⟨c, rm, m, p, R, G, F, S, YF, A, xn, tk, mk, rc, yn, yr, rfl, rfl, h⟩ := I
    have w := th_Rok h (i := 4 * t + r) (by omega)
    exact xg_put ht hr hg (yg_put ht hr hg ⟨rfl, th_relG (th_setG h (by omega) w.1 w.2.2 (by omega))⟩)
  · exact xb_put hh (yb_put hh ⟨rfl, i_up I⟩)
theorem i_vc_get {k : Nat} {u : SX} {v : SY} (I : i_Rel k u v) (hk : k + 5 ≤ 2561) (v1 : Int32) (v2 : Int32) (v3 : Int32) : wpX_get (fun r u' => wpY_get (fun r' v' => r' = r ∧ i_Rel (k + 5) u' v') v v1 v2 v3) u v1 v2 v3 := by
  by_cases hh : th_reg v1 v2 ∧ th_bit v3
  · obtain ⟨⟨t, r, ht, hr, rfl, rfl⟩, g, hg, rfl⟩ := hh
    obtain ⟨c, rm, m, p, R, G, F, S, YF, A, xn, tk, mk, rc, yn, yr, rfl, rfl, h⟩ := I
    have w := th_Gok h (i := g) hg
    exact xg_get ht hr hg (yg_get ht hr hg ⟨rfl, th_relR (th_setR h (by omega) w.1 w.2.2 (by omega))⟩)
  · exact xb_get hh (yb_get hh ⟨rfl, i_up I⟩)
theorem i_vc_swap {k : Nat} {u : SX} {v : SY} (I : i_Rel k u v) (hk : k + 5 ≤ 2561) (v1 : Int32) (v2 : Int32) (v3 : Int32) (v4 : Int32) : wpX_swap (fun r u' => wpY_swap (fun r' v' => r' = r ∧ i_Rel (k + 5) u' v') v v1 v2 v3 v4) u v1 v2 v3 v4 := by
  by_cases hh : th_reg v1 v2 ∧ th_reg v3 v4
  · obtain ⟨⟨t, r, ht, hr, rfl, rfl⟩, q, s, hq, hs, rfl, rfl⟩ := hh
    obtain ⟨c, rm, m, p, R, G, F, S, YF, A, xn, tk, mk, rc, yn, yr, rfl, rfl, h⟩ := I
    have w := th_Rok h (i := 4 * t + r) (by omega)
    have y := th_Rok h (i := 4 * q + s) (by omega)
    refine xg_swap ht hr hq hs (yg_swap ht hr hq hs ⟨rfl, ?_⟩)
    have g1 := th_setR (c := 4 * t + r) (x := R (4 * q + s)) (k' := k) h (by omega) y.1 y.2.2 (Nat.le_refl k)
    have g2 := th_setR (c := 4 * q + s) (x := R (4 * t + r)) (k' := k + 5) g1 (by omega) w.1 w.2.2 (by omega)
    have g3 := th_relR (c := c) (mk := mk) (rc := rc) (yr := yr) g2
    rw [← th_upS] at g3
    exact g3
  · exact xb_swap hh (yb_swap hh ⟨rfl, i_up I⟩)
theorem i_vc_setNumber {k : Nat} {u : SX} {v : SY} (I : i_Rel k u v) (hk : k + 5 ≤ 2561) (v1 : Int32) (v2 : Int32) (v3 : Int32) : wpX_setNumber (fun r u' => wpY_setNumber (fun r' v' => r' = r ∧ i_Rel (k + 5) u' v') v v1 v2 v3) u v1 v2 v3 := by
  by_cases hh : th_reg v1 v2
  · obtain ⟨t, r, ht, hr, rfl, rfl⟩ := hh
    obtain ⟨c, rm, m, p, R, G, F, S, YF, A, xn, tk, mk, rc, yn, yr, rfl, rfl, h⟩ := I
    have w := th_Rok h (i := 4 * t + r) (by omega)
    have hm := th_m h hk
    have hS := th_Sm h (R (4 * t + r))
    have z0 := th_S0 h (i := 4 * t + r) (by omega)
    by_cases z : R (4 * t + r) = 0
    · exact xg_setN0 ht hr z (yg_setN0 ht hr (z0.mpr z) ⟨rfl, th_rel (th_up1 h (by omega))⟩)
    · exact xg_setN ht hr (by omega) z (yg_setN ht hr (by omega) (fun y => z (z0.mp y)) ⟨rfl, th_rel (th_setN h (w.2.2 z) (by omega))⟩)
  · exact xb_setNumber hh (yb_setNumber hh ⟨rfl, i_up I⟩)
theorem i_vc_number {k : Nat} {u : SX} {v : SY} (I : i_Rel k u v) (hk : k + 5 ≤ 2561) (v1 : Int32) (v2 : Int32) : wpX_number (fun r => wpY_number (fun r' => r' = r ∧ i_Rel (k + 5) u v) v v1 v2) u v1 v2 := by
  have J := i_up I
  by_cases hh : th_reg v1 v2
  · obtain ⟨t, r, ht, hr, rfl, rfl⟩ := hh
    obtain ⟨c, rm, m, p, R, G, F, S, YF, A, xn, tk, mk, rc, yn, yr, rfl, rfl, h⟩ := I
    have w := th_Rok h (i := 4 * t + r) (by omega)
    have hm := th_m h hk
    have hS := th_Sm h (R (4 * t + r))
    have z0 := th_S0 h (i := 4 * t + r) (by omega)
    refine xg_number ht hr (by omega) (yg_number ht hr (by omega) (fun z => ⟨?_, J⟩) (fun z => ⟨?_, J⟩))
    · rw [z0.mp z]; exact h.2.2.2.2.1.symm
    · exact (h.2.2.1.2.1 _ (w.2.2 (fun y => z (z0.mpr y)))).2.2.2.2.2.1
  · exact xb_number hh (yb_number hh ⟨rfl, J⟩)
theorem i_vc_serial {k : Nat} {u : SX} {v : SY} (I : i_Rel k u v) (hk : k + 5 ≤ 2561) (v1 : Int32) (v2 : Int32) : wpX_serial (fun r => wpY_serial (fun r' => r' = r ∧ i_Rel (k + 5) u v) v v1 v2) u v1 v2 := by
  have J := i_up I
  by_cases hh : th_reg v1 v2
  · obtain ⟨t, r, ht, hr, rfl, rfl⟩ := hh
    obtain ⟨c, rm, m, p, R, G, F, S, YF, A, xn, tk, mk, rc, yn, yr, rfl, rfl, h⟩ := I
    have w := th_Rok h (i := 4 * t + r) (by omega)
    exact xg_serial ht hr (by omega) (yg_serial ht hr ⟨rfl, J⟩)
  · exact xb_serial hh (yb_serial hh ⟨rfl, J⟩)
theorem i_vc_serialIn {k : Nat} {u : SX} {v : SY} (I : i_Rel k u v) (hk : k + 5 ≤ 2561) (v1 : Int32) (v2 : Int32) (v3 : Int32) : wpX_serialIn (fun r => wpY_serialIn (fun r' => r' = r ∧ i_Rel (k + 5) u v) v v1 v2 v3) u v1 v2 v3 := by
  have J := i_up I
  by_cases hh : th_reg v1 v2 ∧ th_bit v3
  · obtain ⟨⟨t, r, ht, hr, rfl, rfl⟩, f, hf, rfl⟩ := hh
    obtain ⟨c, rm, m, p, R, G, F, S, YF, A, xn, tk, mk, rc, yn, yr, rfl, rfl, h⟩ := I
    have w := th_Rok h (i := 4 * t + r) (by omega)
    have hm := th_m h hk
    have hS := th_Sm h (R (4 * t + r))
    have z0 := th_S0 h (i := 4 * t + r) (by omega)
    have hF := h.2.1.2.2.1 (2 * R (4 * t + r) + f)
    refine xg_serialIn ht hr hf (by omega) (by omega) (fun z => ?_) (fun z => ?_)
    · exact yg_serialIn ht hr hf (by omega) (fun _ => ⟨rfl, J⟩) (fun y => absurd (z0.mpr z) y)
    · refine yg_serialIn ht hr hf (by omega) (fun y => absurd (z0.mp y) z) (fun y => ⟨?_, J⟩)
      rw [(th_Fok h (f := f) (w.2.2 z) hf).2.2.2]
  · exact xb_serialIn hh (yb_serialIn hh ⟨rfl, J⟩)
theorem i_vc_serialOf {k : Nat} {u : SX} {v : SY} (I : i_Rel k u v) (hk : k + 5 ≤ 2561) (v1 : Int32) : wpX_serialOf (fun r => wpY_serialOf (fun r' => r' = r ∧ i_Rel (k + 5) u v) v v1) u v1 := by
  have J := i_up I
  by_cases hh : th_bit v1
  · obtain ⟨g, hg, rfl⟩ := hh
    obtain ⟨c, rm, m, p, R, G, F, S, YF, A, xn, tk, mk, rc, yn, yr, rfl, rfl, h⟩ := I
    have w := th_Gok h (i := g) hg
    exact xg_serialOf hg (by omega) (yg_serialOf hg ⟨rfl, J⟩)
  · exact xb_serialOf hh (yb_serialOf hh ⟨rfl, J⟩)
theorem i_vc_made {k : Nat} {u : SX} {v : SY} (I : i_Rel k u v) (hk : k + 5 ≤ 2561) : wpX_made (fun r => wpY_made (fun r' => r' = r ∧ i_Rel (k + 5) u v) v) u := by
  have J := i_up I
  obtain ⟨c, rm, m, p, R, G, F, S, YF, A, xn, tk, mk, rc, yn, yr, rfl, rfl, h⟩ := I
  exact ⟨rfl, J⟩
theorem i_vc_live {k : Nat} {u : SX} {v : SY} (I : i_Rel k u v) (hk : k + 5 ≤ 2561) : wpX_live (fun r u' => wpY_live (fun r' v' => r' = r ∧ i_Rel (k + 5) u' v') v) u := by
  obtain ⟨c, rm, m, p, R, G, F, S, YF, A, xn, tk, mk, rc, yn, yr, rfl, rfl, h⟩ := I
  have hm := th_m h hk
  unfold wpX_live
  refine xw_mark h.1.2.1 h.2.1.2.2.1 h.2.1.2.1 h.2.1.1 (fun mk' rc' ls => ?_)
  dsimp only
  refine yw_live hm (fun i => th_Sm h _) (fun i => th_Sm h _) h.2.2.2.2.2.1 (fun a la => ⟨?_, th_rel (th_up1 h (by omega))⟩)
  rw [th_bridge h ls la]
theorem i_vc_make {k : Nat} {u : SX} {v : SY} (I : i_Rel k u v) (hk : k + 5 ≤ 2561) (v1 : Int32) (v2 : Int32) (v3 : Int32) : wpX_make (fun r u' => wpY_make (fun r' v' => r' = r ∧ i_Rel (k + 5) u' v') v v1 v2 v3) u v1 v2 v3 := by
  by_cases hh : th_reg v1 v2
  · obtain ⟨t, r, ht, hr, rfl, rfl⟩ := hh
    obtain ⟨c, rm, m, p, R, G, F, S, YF, A, xn, tk, mk, rc, yn, yr, rfl, rfl, h⟩ := I
    have hm := th_m h hk
    refine xg_make ht hr h (fun p' A' tk' mk' rc' c' h' full => ?_) (fun s p' A' tk' mk' rc' c' h' s1 s2 s3 => ?_)
    · obtain ⟨mk0, l0, e0⟩ := full
      refine yg_make ht hr h.1.2.1 hm (fun i => th_Sm h _) (fun i => th_Sm h _) h.2.2.2.2.2.1 (fun a la ge => ⟨rfl, th_rel (th_up1 h' (by omega))⟩) (fun a la lt => ?_)
      have := th_bridge h' l0 la
      omega
    · obtain ⟨mk0, l0⟩ := th_has R G F rm h.2.1.1 h.2.1.2.1 h.2.1.2.2.1
      have lt0 := th_room h' l0 s1 s2 s3
      have nr := th_nR h' s1 s3
      refine yg_make ht hr h.1.2.1 hm (fun i => th_Sm h _) (fun i => th_Sm h _) h.2.2.2.2.2.1 (fun a la ge => ?_) (fun a la lt => ⟨rfl, ?_⟩)
      · have := th_bridge h' l0 la
        omega
      · rw [th_newR nr.1, th_newG (m := m) nr.2]
        exact th_rel (th_new h' s1 s2 s3 (by omega) (by decide) (by omega))
  · exact xb_make hh (yb_make hh ⟨rfl, i_up I⟩)
theorem i_vc_pause {k : Nat} {u : SX} {v : SY} (I : i_Rel k u v) (hk : k + 5 ≤ 2561) (v1 : Int32) : wpX_pause (fun r => wpY_pause (fun r' => r' = r ∧ i_Rel (k + 5) u v) v v1) u v1 := by
  have J := i_up I
  unfold wpX_pause wpX_isThread
  obtain ⟨c, rm, m, p, R, G, F, S, YF, A, xn, tk, mk, rc, yn, yr, rfl, rfl, h⟩ := I
  dsimp only
  unfold wpY_pause
  dsimp only
  refine br_c (fun h0 => br_t rfl (br_t h0 ⟨rfl, J⟩)) (fun h0 => br_c (fun h1 => br_t rfl (br_f h0 (br_f (fun z => ?_) ⟨rfl, J⟩))) (fun h1 => br_f (by decide) (br_f h0 (br_t ?_ ⟨rfl, J⟩))))
  · exact absurd (Int32.le_trans h1 z) (by decide)
  · obtain ⟨j, hj, rfl⟩ := th_of (n := 3) (by decide) h0 h1
    exact nI_le (b := 2) (by omega) (by decide)
theorem i_vc_rest {k : Nat} {u : SX} {v : SY} (I : i_Rel k u v) (hk : k + 5 ≤ 2561) (v1 : Int32) : wpX_rest (fun u' => wpY_rest (fun v' => i_Rel (k + 5) u' v') v v1) u v1 := by
  obtain ⟨c, rm, m, p, R, G, F, S, YF, A, xn, tk, mk, rc, yn, yr, rfl, rfl, h⟩ := I
  exact xg_rest h (fun p' A' tk' mk' rc' c' h' => th_rel (th_up1 h' (by omega)))
theorem i_vc0 (k0 : Int32) : wpX_init (fun u => wpY_init (fun v => i_Rel 1 u v) k0) k0 := by
  have go : ∀ rm : Nat, 4 ≤ rm → rm ≤ 16 → i_Rel 1 (0, nI rm, 0, 0, (fun _ => 0), (fun _ => 0), (fun _ => 0), (fun _ => 0), (fun _ => 0), (fun _ => 0), (fun _ => 0), (fun _ => 0)) (0, nI rm, (fun _ => 0), (fun _ => 0), (fun _ => 0), (fun _ => 0), (fun _ => 0)) :=
    fun rm h4 h16 => ⟨0, rm, 0, 0, fun _ => 0, fun _ => 0, fun _ => 0, fun _ => 0, fun _ => 0, fun _ => False, fun _ => 0, fun _ => 0, fun _ => 0, fun _ => 0, fun _ => 0, fun _ => 0, rfl, rfl, th_init h4 h16⟩
  unfold wpX_init wpY_init
  refine br_c (fun h1 => br_c (fun h2 => br_t h1 (br_t h2 ?_)) (fun h2 => br_t h1 (br_f h2 (go 16 (by omega) (by omega))))) (fun h1 => br_f h1 (go 4 (by omega) (by omega)))
  obtain ⟨j, hj, rfl⟩ := nI_of2 (x := k0) (M := 16) (n := 16) (by decide) (fun z => Int32.not_lt.mpr h1 (Int32.lt_trans z (by decide))) h2
  have h4 : 4 ≤ j := (nI_leI (a := 4) (b := j) (by decide) (by omega)).mp h1
  exact go j h4 hj
