/-! the calls that are done, walked on each side alone -/
theorem xg_copy {post : Int32 → SX → Prop} {c : Int32} {rm m p : Nat} {R G F S : Nat → Nat} {xn tk mk rc : Nat → Int32} {t r s : Nat} (ht : t < 3) (hr : r < 4) (hs : s < 4) (K : post 0 (th_X c rm m p (th_up R (4 * t + r) (R (4 * t + s))) G F S xn tk mk rc)) :
    wpX_copy post (th_X c rm m p R G F S xn tk mk rc) (nI t) (nI r) (nI s) := by
  unfold wpX_copy
  dsimp only
  refine xw_reg_t ht hr (br_f (by decide) (xw_reg_t ht hs (br_f (by decide) (xw_cell (xw_cell ?_)))))
  rw [nI_clamp (n := 4 * t + r) (by omega), nI_clamp (n := 4 * t + s) (by omega)]
  exact ⟨vp_in_nI (by omega) (by decide), vp_in_nI (by omega) (by decide), nm_r th_upd K⟩
theorem yg_copy {post : Int32 → SY → Prop} {rm m : Nat} {R G F : Nat → Nat} {yn yr : Nat → Int32} {t r s : Nat} (ht : t < 3) (hr : r < 4) (hs : s < 4) (K : post 0 (th_Y rm m (th_up R (4 * t + r) (R (4 * t + s))) G F yn yr)) :
    wpY_copy post (th_Y rm m R G F yn yr) (nI t) (nI r) (nI s) := by
  unfold wpY_copy
  dsimp only
  refine yw_reg_t ht hr (br_f (by decide) (yw_reg_t ht hs (br_f (by decide) ?_)))
  rw [th_c4', th_c4', nI_clamp (n := 4 * t + r) (by omega), nI_clamp (n := 4 * t + s) (by omega)]
  exact ⟨vp_in_nI (by omega) (by decide), vp_in_nI (by omega) (by decide), nm_r th_upd K⟩
theorem xg_drop {post : Int32 → SX → Prop} {c : Int32} {rm m p : Nat} {R G F S : Nat → Nat} {xn tk mk rc : Nat → Int32} {t r : Nat} (ht : t < 3) (hr : r < 4) (K : post 0 (th_X c rm m p (th_up R (4 * t + r) 0) G F S xn tk mk rc)) :
    wpX_drop post (th_X c rm m p R G F S xn tk mk rc) (nI t) (nI r) := by
  unfold wpX_drop
  dsimp only
  refine xw_reg_t ht hr (br_f (by decide) (xw_cell ?_))
  rw [nI_clamp (n := 4 * t + r) (by omega)]
  exact ⟨vp_in_nI (by omega) (by decide), nm_r (th_upd (v := 0)) K⟩
theorem yg_drop {post : Int32 → SY → Prop} {rm m : Nat} {R G F : Nat → Nat} {yn yr : Nat → Int32} {t r : Nat} (ht : t < 3) (hr : r < 4) (K : post 0 (th_Y rm m (th_up R (4 * t + r) 0) G F yn yr)) :
    wpY_drop post (th_Y rm m R G F yn yr) (nI t) (nI r) := by
  unfold wpY_drop
  dsimp only
  refine yw_reg_t ht hr (br_f (by decide) ?_)
  rw [th_c4', nI_clamp (n := 4 * t + r) (by omega)]
  exact ⟨vp_in_nI (by omega) (by decide), nm_r (th_upd (v := 0)) K⟩
theorem xg_load0 {post : Int32 → SX → Prop} {c : Int32} {rm m p : Nat} {R G F S : Nat → Nat} {xn tk mk rc : Nat → Int32} {t r s f : Nat} (ht : t < 3) (hr : r < 4) (hs : s < 4) (hf : f < 2) (hR : R (4 * t + s) ≤ 16) (h0 : R (4 * t + s) = 0) (K : post (-3) (th_X c rm m p R G F S xn tk mk rc)) :
    wpX_load post (th_X c rm m p R G F S xn tk mk rc) (nI t) (nI r) (nI s) (nI f) := by
  unfold wpX_load
  dsimp only
  refine xw_reg_t ht hr (br_f (by decide) (xw_reg_t ht hs (br_f (by decide) (xw_fld_t hf (br_f (by decide) (xw_cell ?_))))))
  rw [nI_clamp (n := 4 * t + s) (by omega), h0]
  exact ⟨vp_in_nI (by omega) (by decide), nm_e (br_t rfl K)⟩
theorem xg_load {post : Int32 → SX → Prop} {c : Int32} {rm m p : Nat} {R G F S : Nat → Nat} {xn tk mk rc : Nat → Int32} {t r s f : Nat} (ht : t < 3) (hr : r < 4) (hs : s < 4) (hf : f < 2) (hR : R (4 * t + s) ≤ 16) (h0 : R (4 * t + s) ≠ 0) (K : post 0 (th_X c rm m p (th_up R (4 * t + r) (F (2 * R (4 * t + s) + f))) G F S xn tk mk rc)) :
    wpX_load post (th_X c rm m p R G F S xn tk mk rc) (nI t) (nI r) (nI s) (nI f) := by
  unfold wpX_load
  dsimp only
  refine xw_reg_t ht hr (br_f (by decide) (xw_reg_t ht hs (br_f (by decide) (xw_fld_t hf (br_f (by decide) (xw_cell ?_))))))
  rw [nI_clamp (n := 4 * t + s) (by omega)]
  refine ⟨vp_in_nI (by omega) (by decide), nm_e (br_f (nI_ne0 (by omega) (by omega)) (xw_cell (xw_fcell ?_)))⟩
  rw [nI_clamp (n := 4 * t + r) (by omega), nI_clamp (n := 2 * R (4 * t + s) + f) (by omega)]
  exact ⟨vp_in_nI (by omega) (by decide), vp_in_nI (by omega) (by decide), nm_r th_upd K⟩
theorem yg_load0 {post : Int32 → SY → Prop} {rm m : Nat} {R G F : Nat → Nat} {yn yr : Nat → Int32} {t r s f : Nat} (ht : t < 3) (hr : r < 4) (hs : s < 4) (hf : f < 2) (hR : R (4 * t + s) ≤ 512) (h0 : R (4 * t + s) = 0) (K : post (-3) (th_Y rm m R G F yn yr)) :
    wpY_load post (th_Y rm m R G F yn yr) (nI t) (nI r) (nI s) (nI f) := by
  unfold wpY_load
  dsimp only
  refine yw_reg_t ht hr (br_f (by decide) (yw_reg_t ht hs (br_f (by decide) (yw_bit_t hf (br_f (by decide) ?_)))))
  rw [th_c4', nI_clamp (n := 4 * t + s) (by omega), h0]
  exact ⟨vp_in_nI (by omega) (by decide), nm_e (br_t rfl K)⟩
theorem yg_load {post : Int32 → SY → Prop} {rm m : Nat} {R G F : Nat → Nat} {yn yr : Nat → Int32} {t r s f : Nat} (ht : t < 3) (hr : r < 4) (hs : s < 4) (hf : f < 2) (hR : R (4 * t + s) ≤ 512) (h0 : R (4 * t + s) ≠ 0) (K : post 0 (th_Y rm m (th_up R (4 * t + r) (F (2 * R (4 * t + s) + f))) G F yn yr)) :
    wpY_load post (th_Y rm m R G F yn yr) (nI t) (nI r) (nI s) (nI f) := by
  unfold wpY_load
  dsimp only
  refine yw_reg_t ht hr (br_f (by decide) (yw_reg_t ht hs (br_f (by decide) (yw_bit_t hf (br_f (by decide) ?_)))))
  rw [th_c4', th_c4', nI_clamp (n := 4 * t + s) (by omega), nI_clamp (n := 4 * t + r) (by omega)]
  refine ⟨vp_in_nI (by omega) (by decide), nm_e (br_f (nI_ne0 (by omega) (by omega)) ?_)⟩
  rw [th_c2', nI_clamp (n := 2 * R (4 * t + s) + f) (by omega)]
  exact ⟨vp_in_nI (by omega) (by decide), vp_in_nI (by omega) (by decide), nm_r th_upd K⟩
theorem xg_store0 {post : Int32 → SX → Prop} {c : Int32} {rm m p : Nat} {R G F S : Nat → Nat} {xn tk mk rc : Nat → Int32} {t r s f : Nat} (ht : t < 3) (hr : r < 4) (hs : s < 4) (hf : f < 2) (hR : R (4 * t + s) ≤ 16) (h0 : R (4 * t + s) = 0) (K : post (-3) (th_X c rm m p R G F S xn tk mk rc)) :
    wpX_store post (th_X c rm m p R G F S xn tk mk rc) (nI t) (nI s) (nI f) (nI r) := by
  unfold wpX_store
  dsimp only
  refine xw_reg_t ht hs (br_f (by decide) (xw_fld_t hf (br_f (by decide) (xw_reg_t ht hr (br_f (by decide) (xw_cell ?_))))))
  rw [nI_clamp (n := 4 * t + s) (by omega), h0]
  exact ⟨vp_in_nI (by omega) (by decide), nm_e (br_t rfl K)⟩
theorem xg_store {post : Int32 → SX → Prop} {c : Int32} {rm m p : Nat} {R G F S : Nat → Nat} {xn tk mk rc : Nat → Int32} {t r s f : Nat} (ht : t < 3) (hr : r < 4) (hs : s < 4) (hf : f < 2) (hR : R (4 * t + s) ≤ 16) (h0 : R (4 * t + s) ≠ 0) (K : post 0 (th_X c rm m p R G (th_up F (2 * R (4 * t + s) + f) (R (4 * t + r))) S xn tk mk rc)) :
    wpX_store post (th_X c rm m p R G F S xn tk mk rc) (nI t) (nI s) (nI f) (nI r) := by
  unfold wpX_store
  dsimp only
  refine xw_reg_t ht hs (br_f (by decide) (xw_fld_t hf (br_f (by decide) (xw_reg_t ht hr (br_f (by decide) (xw_cell ?_))))))
  rw [nI_clamp (n := 4 * t + s) (by omega)]
  refine ⟨vp_in_nI (by omega) (by decide), nm_e (br_f (nI_ne0 (by omega) (by omega)) (xw_fcell (xw_cell ?_)))⟩
  rw [nI_clamp (n := 4 * t + r) (by omega), nI_clamp (n := 2 * R (4 * t + s) + f) (by omega)]
  exact ⟨vp_in_nI (by omega) (by decide), vp_in_nI (by omega) (by decide), nm_r th_upd K⟩
theorem yg_store0 {post : Int32 → SY → Prop} {rm m : Nat} {R G F : Nat → Nat} {yn yr : Nat → Int32} {t r s f : Nat} (ht : t < 3) (hr : r < 4) (hs : s < 4) (hf : f < 2) (hR : R (4 * t + s) ≤ 512) (h0 : R (4 * t + s) = 0) (K : post (-3) (th_Y rm m R G F yn yr)) :
    wpY_store post (th_Y rm m R G F yn yr) (nI t) (nI s) (nI f) (nI r) := by
  unfold wpY_store
  dsimp only
  refine yw_reg_t ht hr (br_f (by decide) (yw_reg_t ht hs (br_f (by decide) (yw_bit_t hf (br_f (by decide) ?_)))))
  rw [th_c4', nI_clamp (n := 4 * t + s) (by omega), h0]
  exact ⟨vp_in_nI (by omega) (by decide), nm_e (br_t rfl K)⟩
theorem yg_store {post : Int32 → SY → Prop} {rm m : Nat} {R G F : Nat → Nat} {yn yr : Nat → Int32} {t r s f : Nat} (ht : t < 3) (hr : r < 4) (hs : s < 4) (hf : f < 2) (hR : R (4 * t + s) ≤ 512) (h0 : R (4 * t + s) ≠ 0) (K : post 0 (th_Y rm m R G (th_up F (2 * R (4 * t + s) + f) (R (4 * t + r))) yn yr)) :
    wpY_store post (th_Y rm m R G F yn yr) (nI t) (nI s) (nI f) (nI r) := by
  unfold wpY_store
  dsimp only
  refine yw_reg_t ht hr (br_f (by decide) (yw_reg_t ht hs (br_f (by decide) (yw_bit_t hf (br_f (by decide) ?_)))))
  rw [th_c4', th_c4', nI_clamp (n := 4 * t + s) (by omega), nI_clamp (n := 4 * t + r) (by omega)]
  refine ⟨vp_in_nI (by omega) (by decide), nm_e (br_f (nI_ne0 (by omega) (by omega)) ?_)⟩
  rw [th_c2', nI_clamp (n := 2 * R (4 * t + s) + f) (by omega)]
  exact ⟨vp_in_nI (by omega) (by decide), vp_in_nI (by omega) (by decide), nm_r th_upd K⟩
theorem xg_put {post : Int32 → SX → Prop} {c : Int32} {rm m p : Nat} {R G F S : Nat → Nat} {xn tk mk rc : Nat → Int32} {t r g : Nat} (ht : t < 3) (hr : r < 4) (hg : g < 2) (K : post 0 (th_X c rm m p R (th_up G g (R (4 * t + r))) F S xn tk mk rc)) :
    wpX_put post (th_X c rm m p R G F S xn tk mk rc) (nI t) (nI g) (nI r) := by
  unfold wpX_put
  dsimp only
  refine xw_reg_t ht hr (br_f (by decide) (xw_glb_t hg (br_f (by decide) (xw_cell ?_))))
  rw [nI_clamp (n := 4 * t + r) (by omega), nI_clamp (n := g) (by omega)]
  exact ⟨vp_in_nI (by omega) (by decide), vp_in_nI (by omega) (by decide), nm_r th_upd K⟩
theorem yg_put {post : Int32 → SY → Prop} {rm m : Nat} {R G F : Nat → Nat} {yn yr : Nat → Int32} {t r g : Nat} (ht : t < 3) (hr : r < 4) (hg : g < 2) (K : post 0 (th_Y rm m R (th_up G g (R (4 * t + r))) F yn yr)) :
    wpY_put post (th_Y rm m R G F yn yr) (nI t) (nI g) (nI r) := by
  unfold wpY_put
  dsimp only
  refine yw_reg_t ht hr (br_f (by decide) (yw_bit_t hg (br_f (by decide) ?_)))
  rw [th_c4', nI_clamp (n := 4 * t + r) (by omega), nI_clamp (n := g) (by omega)]
  exact ⟨vp_in_nI (by omega) (by decide), vp_in_nI (by omega) (by decide), nm_r th_upd K⟩
theorem xg_get {post : Int32 → SX → Prop} {c : Int32} {rm m p : Nat} {R G F S : Nat → Nat} {xn tk mk rc : Nat → Int32} {t r g : Nat} (ht : t < 3) (hr : r < 4) (hg : g < 2) (K : post 0 (th_X c rm m p (th_up R (4 * t + r) (G g)) G F S xn tk mk rc)) :
    wpX_get post (th_X c rm m p R G F S xn tk mk rc) (nI t) (nI r) (nI g) := by
  unfold wpX_get
  dsimp only
  refine xw_reg_t ht hr (br_f (by decide) (xw_glb_t hg (br_f (by decide) (xw_cell ?_))))
  rw [nI_clamp (n := 4 * t + r) (by omega), nI_clamp (n := g) (by omega)]
  exact ⟨vp_in_nI (by omega) (by decide), vp_in_nI (by omega) (by decide), nm_r th_upd K⟩
theorem yg_get {post : Int32 → SY → Prop} {rm m : Nat} {R G F : Nat → Nat} {yn yr : Nat → Int32} {t r g : Nat} (ht : t < 3) (hr : r < 4) (hg : g < 2) (K : post 0 (th_Y rm m (th_up R (4 * t + r) (G g)) G F yn yr)) :
    wpY_get post (th_Y rm m R G F yn yr) (nI t) (nI r) (nI g) := by
  unfold wpY_get
  dsimp only
  refine yw_reg_t ht hr (br_f (by decide) (yw_bit_t hg (br_f (by decide) ?_)))
  rw [th_c4', nI_clamp (n := 4 * t + r) (by omega), nI_clamp (n := g) (by omega)]
  exact ⟨vp_in_nI (by omega) (by decide), vp_in_nI (by omega) (by decide), nm_r th_upd K⟩
theorem xg_swap {post : Int32 → SX → Prop} {c : Int32} {rm m p : Nat} {R G F S : Nat → Nat} {xn tk mk rc : Nat → Int32} {t r q s : Nat} (ht : t < 3) (hr : r < 4) (hq : q < 3) (hs : s < 4) (K : post 0 (th_X c rm m p (th_up (th_up R (4 * t + r) (R (4 * q + s))) (4 * q + s) (R (4 * t + r))) G F S xn tk mk rc)) :
    wpX_swap post (th_X c rm m p R G F S xn tk mk rc) (nI t) (nI r) (nI q) (nI s) := by
  unfold wpX_swap
  dsimp only
  refine xw_reg_t ht hr (br_f (by decide) (xw_reg_t hq hs (br_f (by decide) (xw_cell (xw_cell ?_)))))
  rw [nI_clamp (n := 4 * t + r) (by omega), nI_clamp (n := 4 * q + s) (by omega)]
  exact ⟨vp_in_nI (by omega) (by decide), nm_e ⟨vp_in_nI (by omega) (by decide), vp_in_nI (by omega) (by decide), nm_r th_upd ⟨vp_in_nI (by omega) (by decide), nm_r th_upd K⟩⟩⟩
theorem yg_swap {post : Int32 → SY → Prop} {rm m : Nat} {R G F : Nat → Nat} {yn yr : Nat → Int32} {t r q s : Nat} (ht : t < 3) (hr : r < 4) (hq : q < 3) (hs : s < 4) (K : post 0 (th_Y rm m (th_up (th_up R (4 * t + r) (R (4 * q + s))) (4 * q + s) (R (4 * t + r))) G F yn yr)) :
    wpY_swap post (th_Y rm m R G F yn yr) (nI t) (nI r) (nI q) (nI s) := by
  unfold wpY_swap
  dsimp only
  refine yw_reg_t ht hr (br_f (by decide) (yw_reg_t hq hs (br_f (by decide) ?_)))
  rw [th_c4', th_c4', nI_clamp (n := 4 * t + r) (by omega), nI_clamp (n := 4 * q + s) (by omega)]
  exact ⟨vp_in_nI (by omega) (by decide), nm_e ⟨vp_in_nI (by omega) (by decide), vp_in_nI (by omega) (by decide), nm_r th_upd ⟨vp_in_nI (by omega) (by decide), nm_r th_upd K⟩⟩⟩
theorem xg_setN0 {post : Int32 → SX → Prop} {c : Int32} {rm m p : Nat} {R G F S : Nat → Nat} {xn tk mk rc : Nat → Int32} {t r : Nat} {n : Int32} (ht : t < 3) (hr : r < 4) (h0 : R (4 * t + r) = 0) (K : post (-3) (th_X c rm m p R G F S xn tk mk rc)) :
    wpX_setNumber post (th_X c rm m p R G F S xn tk mk rc) (nI t) (nI r) n := by
  unfold wpX_setNumber
  dsimp only
  refine xw_reg_t ht hr (br_f (by decide) (xw_cell ?_))
  rw [nI_clamp (n := 4 * t + r) (by omega), h0]
  exact ⟨vp_in_nI (by omega) (by decide), nm_e (br_t rfl K)⟩
theorem xg_setN {post : Int32 → SX → Prop} {c : Int32} {rm m p : Nat} {R G F S : Nat → Nat} {xn tk mk rc : Nat → Int32} {t r : Nat} {n : Int32} (ht : t < 3) (hr : r < 4) (hR : R (4 * t + r) ≤ 16) (h0 : R (4 * t + r) ≠ 0) (K : post 0 (th_X c rm m p R G F S (upd xn (R (4 * t + r)) n) tk mk rc)) :
    wpX_setNumber post (th_X c rm m p R G F S xn tk mk rc) (nI t) (nI r) n := by
  unfold wpX_setNumber
  dsimp only
  refine xw_reg_t ht hr (br_f (by decide) (xw_cell ?_))
  rw [nI_clamp (n := 4 * t + r) (by omega)]
  refine ⟨vp_in_nI (by omega) (by decide), nm_e (br_f (nI_ne0 (by omega) (by omega)) ⟨vp_in_nI (by omega) (by decide), nm_r ?_ K⟩)⟩
  rw [nI_clamp (n := R (4 * t + r)) (by omega)]
theorem yg_setN0 {post : Int32 → SY → Prop} {rm m : Nat} {R G F : Nat → Nat} {yn yr : Nat → Int32} {t r : Nat} {n : Int32} (ht : t < 3) (hr : r < 4) (h0 : R (4 * t + r) = 0) (K : post (-3) (th_Y rm m R G F yn yr)) :
    wpY_setNumber post (th_Y rm m R G F yn yr) (nI t) (nI r) n := by
  unfold wpY_setNumber
  dsimp only
  refine yw_reg_t ht hr (br_f (by decide) ?_)
  rw [th_c4', nI_clamp (n := 4 * t + r) (by omega), h0]
  exact ⟨vp_in_nI (by omega) (by decide), nm_e (br_t rfl K)⟩
theorem yg_setN {post : Int32 → SY → Prop} {rm m : Nat} {R G F : Nat → Nat} {yn yr : Nat → Int32} {t r : Nat} {n : Int32} (ht : t < 3) (hr : r < 4) (hR : R (4 * t + r) ≤ 512) (h0 : R (4 * t + r) ≠ 0) (K : post 0 (th_Y rm m R G F (upd yn (R (4 * t + r)) n) yr)) :
    wpY_setNumber post (th_Y rm m R G F yn yr) (nI t) (nI r) n := by
  unfold wpY_setNumber
  dsimp only
  refine yw_reg_t ht hr (br_f (by decide) ?_)
  rw [th_c4', nI_clamp (n := 4 * t + r) (by omega)]
  refine ⟨vp_in_nI (by omega) (by decide), nm_e (br_f (nI_ne0 (by omega) (by omega)) ⟨vp_in_nI (by omega) (by decide), nm_r ?_ K⟩)⟩
  rw [nI_clamp (n := R (4 * t + r)) (by omega)]
theorem xg_number {post : Int32 → Prop} {c : Int32} {rm m p : Nat} {R G F S : Nat → Nat} {xn tk mk rc : Nat → Int32} {t r : Nat} (ht : t < 3) (hr : r < 4) (hR : R (4 * t + r) ≤ 16) (K : post (xn (R (4 * t + r)))) :
    wpX_number post (th_X c rm m p R G F S xn tk mk rc) (nI t) (nI r) := by
  unfold wpX_number
  dsimp only
  refine xw_reg_t ht hr (br_f (by decide) (xw_cell ?_))
  rw [nI_clamp (n := 4 * t + r) (by omega)]
  refine ⟨vp_in_nI (by omega) (by decide), vp_in_nI (by omega) (by decide), ?_⟩
  rw [nI_clamp (n := R (4 * t + r)) (by omega)]
  exact K
theorem yg_number {post : Int32 → Prop} {rm m : Nat} {R G F : Nat → Nat} {yn yr : Nat → Int32} {t r : Nat} (ht : t < 3) (hr : r < 4) (hR : R (4 * t + r) ≤ 512) (K0 : R (4 * t + r) = 0 → post 0) (K : R (4 * t + r) ≠ 0 → post (yn (R (4 * t + r)))) :
    wpY_number post (th_Y rm m R G F yn yr) (nI t) (nI r) := by
  unfold wpY_number
  dsimp only
  refine yw_reg_t ht hr (br_f (by decide) ?_)
  rw [th_c4', nI_clamp (n := 4 * t + r) (by omega)]
  refine ⟨vp_in_nI (by omega) (by decide), ?_⟩
  by_cases z : R (4 * t + r) = 0
  · rw [z]
    exact br_t rfl (K0 z)
  · refine br_f (nI_ne0 (by omega) (by omega)) ⟨vp_in_nI (by omega) (by decide), vp_in_nI (by omega) (by decide), ?_⟩
    rw [nI_clamp (n := R (4 * t + r)) (by omega)]
    exact K z
theorem xg_serial {post : Int32 → Prop} {c : Int32} {rm m p : Nat} {R G F S : Nat → Nat} {xn tk mk rc : Nat → Int32} {t r : Nat} (ht : t < 3) (hr : r < 4) (hR : R (4 * t + r) ≤ 16) (K : post (nI (S (R (4 * t + r))))) :
    wpX_serial post (th_X c rm m p R G F S xn tk mk rc) (nI t) (nI r) := by
  unfold wpX_serial
  dsimp only
  refine xw_reg_t ht hr (br_f (by decide) (xw_cell ?_))
  rw [nI_clamp (n := 4 * t + r) (by omega)]
  refine ⟨vp_in_nI (by omega) (by decide), vp_in_nI (by omega) (by decide), ?_⟩
  rw [nI_clamp (n := R (4 * t + r)) (by omega)]
  exact K
theorem yg_serial {post : Int32 → Prop} {rm m : Nat} {R G F : Nat → Nat} {yn yr : Nat → Int32} {t r : Nat} (ht : t < 3) (hr : r < 4) (K : post (nI (R (4 * t + r)))) :
    wpY_serial post (th_Y rm m R G F yn yr) (nI t) (nI r) := by
  unfold wpY_serial
  dsimp only
  refine yw_reg_t ht hr (br_f (by decide) ?_)
  rw [th_c4', nI_clamp (n := 4 * t + r) (by omega)]
  exact ⟨vp_in_nI (by omega) (by decide), K⟩
theorem xg_serialIn {post : Int32 → Prop} {c : Int32} {rm m p : Nat} {R G F S : Nat → Nat} {xn tk mk rc : Nat → Int32} {t r f : Nat} (ht : t < 3) (hr : r < 4) (hf : f < 2) (hR : R (4 * t + r) ≤ 16) (hF : F (2 * R (4 * t + r) + f) ≤ 16) (K0 : R (4 * t + r) = 0 → post (-3)) (K : R (4 * t + r) ≠ 0 → post (nI (S (F (2 * R (4 * t + r) + f))))) :
    wpX_serialIn post (th_X c rm m p R G F S xn tk mk rc) (nI t) (nI r) (nI f) := by
  unfold wpX_serialIn
  dsimp only
  refine xw_reg_t ht hr (br_f (by decide) (xw_fld_t hf (br_f (by decide) (xw_cell ?_))))
  rw [nI_clamp (n := 4 * t + r) (by omega)]
  refine ⟨vp_in_nI (by omega) (by decide), ?_⟩
  by_cases z : R (4 * t + r) = 0
  · rw [z]
    exact nm_e (br_t rfl (K0 z))
  · refine nm_e (br_f (nI_ne0 (by omega) (by omega)) (xw_fcell ?_))
    rw [nI_clamp (n := 2 * R (4 * t + r) + f) (by omega), nI_clamp (n := F (2 * R (4 * t + r) + f)) (by omega)]
    exact ⟨vp_in_nI (by omega) (by decide), vp_in_nI (by omega) (by decide), K z⟩
theorem yg_serialIn {post : Int32 → Prop} {rm m : Nat} {R G F : Nat → Nat} {yn yr : Nat → Int32} {t r f : Nat} (ht : t < 3) (hr : r < 4) (hf : f < 2) (hR : R (4 * t + r) ≤ 512) (K0 : R (4 * t + r) = 0 → post (-3)) (K : R (4 * t + r) ≠ 0 → post (nI (F (2 * R (4 * t + r) + f)))) :
    wpY_serialIn post (th_Y rm m R G F yn yr) (nI t) (nI r) (nI f) := by
  unfold wpY_serialIn
  dsimp only
  refine yw_reg_t ht hr (br_f (by decide) (yw_bit_t hf (br_f (by decide) ?_)))
  rw [th_c4', nI_clamp (n := 4 * t + r) (by omega)]
  refine ⟨vp_in_nI (by omega) (by decide), ?_⟩
  by_cases z : R (4 * t + r) = 0
  · rw [z]
    exact nm_e (br_t rfl (K0 z))
  · refine nm_e (br_f (nI_ne0 (by omega) (by omega)) ?_)
    rw [th_c2', nI_clamp (n := 2 * R (4 * t + r) + f) (by omega)]
    exact ⟨vp_in_nI (by omega) (by decide), K z⟩
theorem xg_serialOf {post : Int32 → Prop} {c : Int32} {rm m p : Nat} {R G F S : Nat → Nat} {xn tk mk rc : Nat → Int32} {g : Nat} (hg : g < 2) (hG : G g ≤ 16) (K : post (nI (S (G g)))) :
    wpX_serialOf post (th_X c rm m p R G F S xn tk mk rc) (nI g) := by
  unfold wpX_serialOf
  dsimp only
  refine xw_glb_t hg (br_f (by decide) ?_)
  rw [nI_clamp (n := g) (by omega), nI_clamp (n := G g) (by omega)]
  exact ⟨vp_in_nI (by omega) (by decide), vp_in_nI (by omega) (by decide), K⟩
theorem yg_serialOf {post : Int32 → Prop} {rm m : Nat} {R G F : Nat → Nat} {yn yr : Nat → Int32} {g : Nat} (hg : g < 2) (K : post (nI (G g))) :
    wpY_serialOf post (th_Y rm m R G F yn yr) (nI g) := by
  unfold wpY_serialOf
  dsimp only
  refine yw_bit_t hg (br_f (by decide) ?_)
  rw [nI_clamp (n := g) (by omega)]
  exact ⟨vp_in_nI (by omega) (by decide), K⟩
/-! make -/
theorem xg_make {post : Int32 → SX → Prop} {k rm m p : Nat} {R G F S YF : Nat → Nat} {A : Nat → Prop} {xn tk yn mk rc : Nat → Int32} {c n : Int32} {t r : Nat}
    (ht : t < 3) (hr : r < 4) (h : th_inv k rm m p R G F S YF A xn tk yn)
    (K0 : ∀ (p' : Nat) (A' : Nat → Prop) (tk' mk' rc' : Nat → Int32) (c' : Int32), th_inv k rm m p' R G F S YF A' xn tk' yn →
      (∃ mk, th_lst R G F mk rm ∧ th_cnt mk rm = rm) → post (-2) (th_X c' rm m p' R G F S xn tk' mk' rc'))
    (K1 : ∀ (s p' : Nat) (A' : Nat → Prop) (tk' mk' rc' : Nat → Int32) (c' : Int32), th_inv k rm m p' R G F S YF A' xn tk' yn → 1 ≤ s → s ≤ rm → tk' s = 0 →
      post (nI (m + 1)) (th_X c' rm (m + 1) p' (th_up R (4 * t + r) s) G (th_up (th_up F (2 * s) 0) (2 * s + 1) 0) (th_up S s (m + 1)) (upd xn s n) (upd tk' s 1) mk' rc')) :
    wpX_make post (th_X c rm m p R G F S xn tk mk rc) (nI t) (nI r) n := by
  have h16 := h.1.2.1
  unfold wpX_make
  dsimp only
  refine xw_reg_t ht hr (br_f (by decide) (xw_room h (fun s p' A' tk' mk' rc' c' h' hs => ?_)))
  dsimp only
  rcases hs with ⟨s1, s2, s3⟩ | ⟨rfl, hs⟩
  · refine br_f (nI_ne0 (by omega) (by omega)) (nm_r (nI_1 m) ?_)
    rw [nI_clamp (n := s) (by omega), th_b1]
    refine ⟨vp_in_nI (by omega) (by decide), nm_e ⟨vp_in_nI (by omega) (by decide), nm_e ⟨vp_in_nI (by omega) (by decide), nm_r th_upd ?_⟩⟩⟩
    refine xw_fcell (f := 0) ?_
    rw [nI_clamp (n := 2 * s + 0) (by omega)]
    refine ⟨vp_in_nI (by omega) (by decide), nm_r (th_upd (v := 0)) (xw_fcell (f := 1) ?_)⟩
    rw [nI_clamp (n := 2 * s + 1) (by omega)]
    refine ⟨vp_in_nI (by omega) (by decide), nm_r (th_upd (v := 0)) (xw_cell ?_)⟩
    rw [nI_clamp (n := 4 * t + r) (by omega)]
    exact ⟨vp_in_nI (by omega) (by decide), nm_r th_upd (K1 s p' A' tk' mk' rc' c' h' s1 s2 s3)⟩
  · exact br_t rfl (K0 p' A' tk' mk' rc' c' h' hs)
theorem yg_make {post : Int32 → SY → Prop} {rm m : Nat} {R G F : Nat → Nat} {yn yr : Nat → Int32} {n : Int32} {t r : Nat}
    (ht : t < 3) (hr : r < 4) (h16 : rm ≤ 16) (hm : m ≤ 511) (hR : ∀ i, R i ≤ m) (hG : ∀ i, G i ≤ m) (hF : ∀ i, F i ≤ m)
    (K0 : ∀ a, th_lst R G F a m → rm ≤ th_cnt a m → post (-2) (th_Y rm m R G F yn a))
    (K1 : ∀ a, th_lst R G F a m → th_cnt a m < rm → post (nI (m + 1)) (th_Y rm (m + 1) (th_up R (4 * t + r) (m + 1)) G (th_up (th_up F (2 * (m + 1)) 0) (2 * (m + 1) + 1) 0) (upd yn (m + 1) n) a)) :
    wpY_make post (th_Y rm m R G F yn yr) (nI t) (nI r) n := by
  unfold wpY_make
  dsimp only
  refine yw_reg_t ht hr (br_f (by decide) (yw_live hm hR hG hF (fun a la => ?_)))
  dsimp only
  have hc := th_cnt_le a m
  by_cases q : rm ≤ th_cnt a m
  · exact br_t (nI_le q (by omega)) (K0 a la q)
  · refine br_f (nI_ge (by omega) (by omega)) (br_f (fun e => ?_) (nm_r (nI_1 m) ?_))
    · have := (nI_eq (a := m) (b := 512) (by omega) (by decide)).mp e
      omega
    · rw [th_d2', nI_1, th_c4', nI_clamp (n := 2 * (m + 1)) (by omega), nI_clamp (n := 2 * (m + 1) + 1) (by omega), nI_clamp (n := m + 1) (by omega), nI_clamp (n := 4 * t + r) (by omega)]
      exact ⟨vp_in_nI (by omega) (by decide), nm_r (th_upd (v := 0)) ⟨vp_in_nI (by omega) (by decide), nm_r (th_upd (v := 0)) ⟨vp_in_nI (by omega) (by decide), nm_e ⟨vp_in_nI (by omega) (by decide), nm_r th_upd (K1 a la (by omega))⟩⟩⟩⟩
/-! rest -/
theorem xg_rest {post : SX → Prop} {k rm m p : Nat} {R G F S YF : Nat → Nat} {A : Nat → Prop} {xn tk yn mk rc : Nat → Int32} {c x : Int32}
    (h : th_inv k rm m p R G F S YF A xn tk yn)
    (K : ∀ (p' : Nat) (A' : Nat → Prop) (tk' mk' rc' : Nat → Int32) (c' : Int32), th_inv k rm m p' R G F S YF A' xn tk' yn → post (th_X c' rm m p' R G F S xn tk' mk' rc')) :
    wpX_rest post (th_X c rm m p R G F S xn tk mk rc) x := by
  have go : ∀ st : Nat, st < 100 → wX_rest_18 post (nI st) c (nI rm) (nI m) (nI p) (fun i => nI (R i)) (fun i => nI (G i)) xn (fun i => nI (S i)) (fun i => nI (F i)) tk mk rc := by
    intro st hst
    unfold wX_rest_18
    refine xw_mark h.1.2.1 h.2.1.2.2.1 h.2.1.2.1 h.2.1.1 (fun mk' rc' ls => ?_)
    exact xw_sweep h.1.1 h.1.2.1 h.1.2.2.2 hst (fun q tk' ok => K q _ tk' mk' rc' _ (th_swp h ls ok.1 (sw_keep ok)))
  unfold wpX_rest
  dsimp only
  refine br_c (fun h1 => br_c (fun h2 => ?_) (fun _ => go 63 (by omega))) (fun _ => K p A tk mk rc c h)
  obtain ⟨j, hj, rfl⟩ := nI_of2 (x := x) (M := 63) (n := 63) (by decide) (fun z => Int32.not_lt.mpr h1 (Int32.lt_trans z (by decide))) h2
  exact go j (by omega)

