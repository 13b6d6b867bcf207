/-! the class's marking and sweep, walked -/
section
variable {rm m p : Nat} {R G F S : Nat → Nat} {xn tk : Nat → Int32}
theorem xw_reach {post : SX → Prop} {mk rc : Nat → Int32} {c s : Nat} (h16 : rm ≤ 16) (h : xm_ok rm R G F mk rc c) (hs : s ≤ rm)
    (hP : s ≠ 0 → ∀ P, th_cl R G F P → P s)
    (K : ∀ mk' rc' c', xm_ok rm R G F mk' rc' c' → xm_ext mk rc c mk' rc' c' → (s ≠ 0 → mk' s ≠ 0) → post (th_X (nI c') rm m p R G F S xn tk mk' rc')) :
    wpX_reach post (th_X (nI c) rm m p R G F S xn tk mk rc) (nI s) := by
  have hc := xm_c h
  unfold wpX_reach
  dsimp only
  by_cases z : s = 0
  · subst z
    exact br_t rfl (K _ _ _ h xm_ext_r (fun w => absurd rfl w))
  · refine br_f (nI_ne0 (by omega) (by omega)) ⟨vp_in_nI (by omega) (by omega), ?_⟩
    rw [nI_clamp (n := s) (by omega), nI_clamp (n := c) (by omega), th_b1]
    by_cases q : mk s = 0
    · have w := xm_step h16 h (by omega) hs (hP z) q
      refine br_t q ⟨vp_in_nI (by omega) (by omega), nm_e ⟨vp_in_nI (by omega) (by omega), nm_e (nm_r (nI_1 c) ?_)⟩⟩
      exact K _ _ _ w.1 w.2 (fun _ => by rw [th_us]; decide)
    · exact br_f q (K _ _ _ h xm_ext_r (fun _ => q))
theorem xw_E {post : SX → Prop} {J : Int32 → Int32 → Int32 → Int32 → Int32 → (Nat → Int32) → (Nat → Int32) → (Nat → Int32) → (Nat → Int32) → (Nat → Int32) → (Nat → Int32) → (Nat → Int32) → (Nat → Int32) → Prop} {mk0 rc0 : Nat → Int32} {c0 s j : Nat} (h16 : rm ≤ 16) (hF : ∀ i, F i ≤ rm)
    (s1 : 1 ≤ s) (s2 : s ≤ rm) (hP : ∀ P, th_cl R G F P → P s)
    (K : ∀ mk rc c, xm_ok rm R G F mk rc c → xm_ext mk0 rc0 c0 mk rc c → (∀ f, f < 2 → F (2 * s + f) ≠ 0 → mk (F (2 * s + f)) ≠ 0) →
      J (nI (j + 1)) (nI c) (nI rm) (nI m) (nI p) (fun i => nI (R i)) (fun i => nI (G i)) xn (fun i => nI (S i)) (fun i => nI (F i)) tk mk rc) :
    ∀ (d f : Nat) (mk rc : Nat → Int32) (c : Nat), f + d = 2 → xm_ok rm R G F mk rc c → xm_ext mk0 rc0 c0 mk rc c →
    (∀ g, g < f → F (2 * s + g) ≠ 0 → mk (F (2 * s + g)) ≠ 0) → wX_markLive_100 post J (nI j) (nI (2 * s)) (d + 1) (nI f) (nI c) (nI rm) (nI m) (nI p) (fun i => nI (R i)) (fun i => nI (G i)) xn (fun i => nI (S i)) (fun i => nI (F i)) tk mk rc := by
  intro d
  induction d with
  | zero =>
    intro f mk rc c e ok ex fs
    have e2 : f = 2 := by omega
    subst e2
    exact br_t (nI_le (a := 2) (by omega) (by decide)) (nm_r (nI_1 j) (K mk rc c ok ex fs))
  | succ d ih =>
    intro f mk rc c e ok ex fs
    rw [wX_markLive_100]
    dsimp only
    refine br_f (nI_ge (b := 2) (by omega) (by decide)) ?_
    rw [nI_add, nI_clamp (n := 2 * s + f) (by omega)]
    refine ⟨vp_in_nI (by omega) (by decide), ?_⟩
    refine xw_reach h16 ok (hF _) (fun z => xm_sF (by omega) hP (by omega) z) (fun mk' rc' c' ok' ex' g' => ?_)
    refine nm_r (nI_1 f) (ih (f + 1) mk' rc' c' (by omega) ok' (xm_ext_t ex ex') (fun g hg z => ?_))
    by_cases w : g = f
    · rw [w] at z ⊢; exact g' z
    · exact ex'.2.1 _ (fs g (by omega) z)
theorem xw_D {post : SX → Prop} (h16 : rm ≤ 16) (hF : ∀ i, F i ≤ rm)
    (K : ∀ mk rc c, xm_ok rm R G F mk rc c → xm_rt R G mk → xm_done rm F mk rc c → post (th_X (nI c) rm m p R G F S xn tk mk rc)) :
    ∀ (d j : Nat) (mk rc : Nat → Int32) (c : Nat), j + d = 17 → j ≤ c → xm_ok rm R G F mk rc c → xm_rt R G mk → xm_done rm F mk rc j →
    wX_markLive_75 post (d + 1) (nI j) (nI c) (nI rm) (nI m) (nI p) (fun i => nI (R i)) (fun i => nI (G i)) xn (fun i => nI (S i)) (fun i => nI (F i)) tk mk rc := by
  intro d
  induction d with
  | zero =>
    intro j mk rc c e hj ok
    have := xm_c ok
    omega
  | succ d ih =>
    intro j mk rc c e hj ok rt dn
    have hc := xm_c ok
    rw [wX_markLive_75]
    dsimp only
    refine br_f (nI_ge (b := 17) (by omega) (by decide)) ?_
    by_cases q : c ≤ j
    · have e1 : j = c := by omega
      subst e1
      exact br_t (nI_le (Nat.le_refl _) (by omega)) (K mk rc j ok rt dn)
    · refine br_f (nI_ge (by omega) (by omega)) ⟨vp_in_nI (by omega) (by omega), ?_⟩
      rw [nI_clamp (n := j) (by omega)]
      obtain ⟨s, s1, s2, s3, s4⟩ := ok.2.2 j (by omega)
      rw [s3]
      refine nm_r (th_d2 s) ⟨3, xw_E h16 hF s1 s2 (ok.2.1 s (by omega) s4).2.2.1 (fun mk' rc' c' ok' ex fs => ?_) 2 0 mk rc c rfl ok xm_ext_r (fun g hg => absurd hg (Nat.not_lt_zero g))⟩
      refine ih (j + 1) mk' rc' c' (by omega) (by have := ex.1; omega) ok' (xm_rt_e rt ex) ?_
      intro i hi t ht et f hf z
      by_cases w : i = j
      · have et' : nI s = nI t := by rw [← s3, ← ex.2.2 j (by omega), ← w]; exact et
        have : s = t := (nI_eq (by omega) (by omega)).mp et'
        subst this
        exact fs f hf z
      · exact xm_done_e dn hj ex i (by omega) t ht et f hf z
theorem xw_C {post : SX → Prop} (h16 : rm ≤ 16) (hF : ∀ i, F i ≤ rm) (hG : ∀ i, G i ≤ rm)
    (K : ∀ mk rc c, xm_ok rm R G F mk rc c → xm_rt R G mk → xm_done rm F mk rc c → post (th_X (nI c) rm m p R G F S xn tk mk rc)) :
    ∀ (d j : Nat) (mk rc : Nat → Int32) (c : Nat), j + d = 2 → xm_ok rm R G F mk rc c → (∀ i, i < 12 → R i ≠ 0 → mk (R i) ≠ 0) →
    (∀ i, i < j → G i ≠ 0 → mk (G i) ≠ 0) → wX_markLive_52 post (d + 1) (nI j) (nI c) (nI rm) (nI m) (nI p) (fun i => nI (R i)) (fun i => nI (G i)) xn (fun i => nI (S i)) (fun i => nI (F i)) tk mk rc := by
  intro d
  induction d with
  | zero =>
    intro j mk rc c e ok r1 r2
    have e2 : j = 2 := by omega
    subst e2
    exact br_t (nI_le (a := 2) (by omega) (by decide)) ⟨18, xw_D h16 hF K 17 0 mk rc c rfl (Nat.zero_le c) ok ⟨r1, r2⟩ (fun j hj => absurd hj (Nat.not_lt_zero j))⟩
  | succ d ih =>
    intro j mk rc c e ok r1 r2
    rw [wX_markLive_52]
    dsimp only
    refine br_f (nI_ge (b := 2) (by omega) (by decide)) ⟨vp_in_nI (by omega) (by decide), ?_⟩
    rw [nI_clamp (n := j) (by omega)]
    refine xw_reach h16 ok (hG j) (fun z => xm_sG (by omega) z) (fun mk' rc' c' ok' ex g => ?_)
    refine nm_r (nI_1 j) (ih (j + 1) mk' rc' c' (by omega) ok' (fun i hi z => ex.2.1 _ (r1 i hi z)) (fun i hi z => ?_))
    by_cases w : i = j
    · rw [w] at z ⊢; exact g z
    · exact ex.2.1 _ (r2 i (by omega) z)
theorem xw_B {post : SX → Prop} (h16 : rm ≤ 16) (hF : ∀ i, F i ≤ rm) (hG : ∀ i, G i ≤ rm) (hR : ∀ i, R i ≤ rm)
    (K : ∀ mk rc c, xm_ok rm R G F mk rc c → xm_rt R G mk → xm_done rm F mk rc c → post (th_X (nI c) rm m p R G F S xn tk mk rc)) :
    ∀ (d j : Nat) (mk rc : Nat → Int32) (c : Nat), j + d = 12 → xm_ok rm R G F mk rc c → (∀ i, i < j → R i ≠ 0 → mk (R i) ≠ 0) →
    wX_markLive_28 post (d + 1) (nI j) (nI c) (nI rm) (nI m) (nI p) (fun i => nI (R i)) (fun i => nI (G i)) xn (fun i => nI (S i)) (fun i => nI (F i)) tk mk rc := by
  intro d
  induction d with
  | zero =>
    intro j mk rc c e ok r1
    have e2 : j = 12 := by omega
    subst e2
    exact br_t (nI_le (a := 12) (by omega) (by decide)) ⟨3, xw_C h16 hF hG K 2 0 mk rc c rfl ok r1 (fun j hj => absurd hj (Nat.not_lt_zero j))⟩
  | succ d ih =>
    intro j mk rc c e ok r1
    rw [wX_markLive_28]
    dsimp only
    refine br_f (nI_ge (b := 12) (by omega) (by decide)) ⟨vp_in_nI (by omega) (by decide), ?_⟩
    rw [nI_clamp (n := j) (by omega)]
    refine xw_reach h16 ok (hR j) (fun z => xm_sR (by omega) z) (fun mk' rc' c' ok' ex g => ?_)
    refine nm_r (nI_1 j) (ih (j + 1) mk' rc' c' (by omega) ok' (fun i hi z => ?_))
    by_cases w : i = j
    · rw [w] at z ⊢; exact g z
    · exact ex.2.1 _ (r1 i (by omega) z)
theorem xw_A {post : SX → Prop} {c : Int32} (h16 : rm ≤ 16) (hF : ∀ i, F i ≤ rm) (hG : ∀ i, G i ≤ rm) (hR : ∀ i, R i ≤ rm) {rc : Nat → Int32}
    (K : ∀ mk rc c, xm_ok rm R G F mk rc c → xm_rt R G mk → xm_done rm F mk rc c → post (th_X (nI c) rm m p R G F S xn tk mk rc)) :
    ∀ (d j : Nat) (mk : Nat → Int32), j + d = 17 → (∀ s, s < j → mk s = 0) →
    wX_markLive_2 post c (nI rm) (nI m) (nI p) (d + 1) (nI j) (fun i => nI (R i)) (fun i => nI (G i)) xn (fun i => nI (S i)) (fun i => nI (F i)) tk mk rc := by
  intro d
  induction d with
  | zero =>
    intro j mk e z
    have e2 : j = 17 := by omega
    subst e2
    exact br_t (nI_le (a := 17) (by omega) (by decide)) ⟨13, xw_B h16 hF hG hR K 12 0 mk rc 0 rfl (xm_start h16 z) (fun j hj => absurd hj (Nat.not_lt_zero j))⟩
  | succ d ih =>
    intro j mk e z
    rw [wX_markLive_2]
    dsimp only
    rw [nI_clamp (n := j) (by omega), th_b0]
    refine br_f (nI_ge (b := 17) (by omega) (by decide)) ⟨vp_in_nI (by omega) (by decide), nm_e (nm_r (nI_1 j) ?_)⟩
    refine ih (j + 1) (upd mk j 0) (by omega) (fun s hs => ?_)
    by_cases w : s = j
    · rw [w, th_us]
    · rw [th_un w]; exact z s (by omega)
/-- behind markLive the marks are the least closed set, and reachedCount counts them -/
theorem xw_mark {post : SX → Prop} {c : Int32} {mk rc : Nat → Int32} (h16 : rm ≤ 16) (hF : ∀ i, F i ≤ rm) (hG : ∀ i, G i ≤ rm) (hR : ∀ i, R i ≤ rm)
    (K : ∀ mk' rc', th_lst R G F mk' rm → post (th_X (nI (th_cnt mk' rm)) rm m p R G F S xn tk mk' rc')) :
    wpX_markLive post (th_X c rm m p R G F S xn tk mk rc) := by
  unfold wpX_markLive
  dsimp only
  refine ⟨18, xw_A h16 hF hG hR (fun mk' rc' c' ok rt dn => ?_) 17 0 mk rfl (fun s hs => absurd hs (Nat.not_lt_zero s))⟩
  rw [ok.1]
  exact K mk' rc' (xm_end h16 ok rt hR hG hF dn)
end
section
variable {rm m : Nat} {R G F S : Nat → Nat} {xn mk rc : Nat → Int32} {c : Int32}
theorem xw_SW {post : SX → Prop} {p st : Nat} {tk : Nat → Int32} (h4 : 4 ≤ rm) (h16 : rm ≤ 16) (hp : p ≤ rm) (hst : st < 100)
    (K : ∀ q tk', sw_ok rm p mk tk st q tk' → post (th_X c rm m q R G F S xn tk' mk rc)) :
    ∀ (d j q : Nat) (tk' : Nat → Int32), j + d = st → sw_ok rm p mk tk j q tk' →
    wX_sweep_2 post (nI st) c (nI rm) (nI m) (d + 1) (nI j) (nI q) (fun i => nI (R i)) (fun i => nI (G i)) xn (fun i => nI (S i)) (fun i => nI (F i)) tk' mk rc := by
  intro d
  induction d with
  | zero =>
    intro j q tk' e ok
    have e2 : j = st := by omega
    subst e2
    exact br_t (nI_le (Nat.le_refl _) (by omega)) (K q tk' ok)
  | succ d ih =>
    intro j q tk' e ok
    have hq := ok.1
    have key : ∀ q' : Nat, ((q < rm ∧ q' = q + 1) ∨ (rm ≤ q ∧ q' = 1)) →
        wX_sweep_29 post (wX_sweep_2 post (nI st) c (nI rm) (nI m) (d + 1)) (nI st) (nI j) (nI q') c (nI rm) (nI m) (nI q) (fun i => nI (R i)) (fun i => nI (G i)) xn (fun i => nI (S i)) (fun i => nI (F i)) tk' mk rc := by
      intro q' hq'
      unfold wX_sweep_29
      refine ⟨vp_in_nI (by omega) (by decide), ?_⟩
      rw [nI_clamp (n := q') (by omega), th_b0]
      by_cases z : mk q' = 0
      · exact br_t z ⟨vp_in_nI (by omega) (by decide), nm_e (nm_r (nI_1 j) (ih (j + 1) q' _ (by omega) (sw_step hp h4 ok hq' (Or.inl ⟨z, rfl⟩))))⟩
      · exact br_f z (nm_r (nI_1 j) (ih (j + 1) q' _ (by omega) (sw_step hp h4 ok hq' (Or.inr ⟨z, rfl⟩))))
    rw [wX_sweep_2]
    dsimp only
    refine br_f (nI_ge (by omega) (by omega)) ?_
    by_cases z : q < rm
    · refine br_f (nI_ge z (by omega)) ?_
      rw [nI_1 q]
      exact key (q + 1) (Or.inl ⟨z, rfl⟩)
    · exact br_t (nI_le (by omega) (by omega)) (key 1 (Or.inr ⟨by omega, rfl⟩))
theorem xw_sweep {post : SX → Prop} {p st : Nat} {tk : Nat → Int32} (h4 : 4 ≤ rm) (h16 : rm ≤ 16) (hp : p ≤ rm) (hst : st < 100)
    (K : ∀ q tk', sw_ok rm p mk tk st q tk' → post (th_X c rm m q R G F S xn tk' mk rc)) :
    wpX_sweep post (th_X c rm m p R G F S xn tk mk rc) (nI st) := by
  unfold wpX_sweep
  dsimp only
  exact ⟨st + 1, xw_SW h4 h16 hp hst K st 0 p tk (by omega) (sw_0 hp)⟩
/-- the first slot that is not in use, or 0 -/
theorem xw_FS {post : Int32 → Prop} {p : Nat} {tk : Nat → Int32} (h16 : rm ≤ 16)
    (K : ∀ s, (1 ≤ s ∧ s ≤ rm ∧ tk s = 0) ∨ (s = 0 ∧ ∀ t, 1 ≤ t → t ≤ rm → tk t ≠ 0) → post (nI s)) :
    ∀ (d j : Nat), 1 ≤ j → j + d = rm + 1 → (∀ t, 1 ≤ t → t < j → tk t ≠ 0) →
    wX_freeSlot_2 post c (nI rm) (nI m) (nI p) (fun i => nI (R i)) (fun i => nI (G i)) xn (fun i => nI (S i)) (fun i => nI (F i)) tk mk rc (d + 1) (nI j) := by
  intro d
  induction d with
  | zero =>
    intro j h1 e z
    exact br_t (nI_lt (by omega) (by omega)) (K 0 (Or.inr ⟨rfl, fun t t1 t2 => z t t1 (by omega)⟩))
  | succ d ih =>
    intro j h1 e z
    rw [wX_freeSlot_2]
    dsimp only
    refine br_f (nI_nlt (by omega) (by omega)) ⟨vp_in_nI (by omega) (by omega), ?_⟩
    rw [nI_clamp (n := j) (by omega)]
    by_cases q : tk j = 0
    · exact br_t q (K j (Or.inl ⟨h1, by omega, q⟩))
    · refine br_f q (nm_r (nI_1 j) (ih (j + 1) (by omega) (by omega) (fun t t1 t2 => ?_)))
      by_cases w : t = j
      · rw [w]; exact q
      · exact z t t1 (by omega)
theorem xw_free {post : Int32 → Prop} {p : Nat} {tk : Nat → Int32} (h16 : rm ≤ 16)
    (K : ∀ s, (1 ≤ s ∧ s ≤ rm ∧ tk s = 0) ∨ (s = 0 ∧ ∀ t, 1 ≤ t → t ≤ rm → tk t ≠ 0) → post (nI s)) :
    wpX_freeSlot post (th_X c rm m p R G F S xn tk mk rc) := by
  unfold wpX_freeSlot
  dsimp only
  exact ⟨rm + 1, xw_FS h16 K rm 1 (by omega) (by omega) (fun t t1 t2 => by omega)⟩
end
/-- findRoom: a slot that is not in use, or 0 and every slot live -/
theorem xw_room {post : Int32 → SX → Prop} {k rm m p : Nat} {R G F S YF : Nat → Nat} {A : Nat → Prop} {xn tk yn mk rc : Nat → Int32} {c : Int32}
    (h : th_inv k rm m p R G F S YF A xn tk yn)
    (K : ∀ (s p' : Nat) (A' : Nat → Prop) (tk' mk' rc' : Nat → Int32) (c' : Int32), th_inv k rm m p' R G F S YF A' xn tk' yn →
      (1 ≤ s ∧ s ≤ rm ∧ tk' s = 0) ∨ (s = 0 ∧ ∃ mk, th_lst R G F mk rm ∧ th_cnt mk rm = rm) → post (nI s) (th_X c' rm m p' R G F S xn tk' mk' rc')) :
    wpX_findRoom post (th_X c rm m p R G F S xn tk mk rc) := by
  have h' := h
  obtain ⟨⟨h4, h16, _, hp⟩, ⟨hR, hG, hF, _, _⟩, _, _⟩ := h'
  unfold wpX_findRoom
  dsimp only
  refine xw_free h16 (fun s hs => ?_)
  rcases hs with hs | ⟨rfl, hs⟩
  · refine br_f (nI_ne0 (by omega) (by omega)) ?_
    exact K s p A tk mk rc c h (Or.inl hs)
  · refine br_t rfl ?_
    refine xw_mark h16 hF hG hR (fun mk' rc' ls => ?_)
    refine xw_sweep h4 h16 hp (by omega) (fun q tk' ok => ?_)
    have h2 := th_swp h ls ok.1 (sw_keep ok)
    refine xw_free h16 (fun s hs => ?_)
    rcases hs with hs | ⟨rfl, hs⟩
    · exact K s q _ tk' mk' rc' _ h2 (Or.inl hs)
    · refine K 0 q _ tk' mk' rc' _ h2 (Or.inr ⟨rfl, mk', ls, th_cnt_full (fun s s1 s2 => ?_)⟩)
      exact (sw_all ok s s1 s2).resolve_right (hs s s1 s2)
