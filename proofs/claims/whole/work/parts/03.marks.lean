/-! the class's marking and the reference's, as mathematics alone -/
/-- c slots are marked; rc lists them; each is in every closed set -/
def xm_ok (rm : Nat) (R G F : Nat → Nat) (mk rc : Nat → Int32) (c : Nat) : Prop :=
  c = th_cnt mk rm ∧ (∀ s, s < 17 → mk s ≠ 0 → 1 ≤ s ∧ s ≤ rm ∧ (∀ P, th_cl R G F P → P s) ∧ ∃ j, j < c ∧ rc j = nI s) ∧
  (∀ j, j < c → ∃ s, 1 ≤ s ∧ s ≤ rm ∧ rc j = nI s ∧ mk s ≠ 0)
/-- a later state of the marking -/
def xm_ext (mk rc : Nat → Int32) (c : Nat) (mk' rc' : Nat → Int32) (c' : Nat) : Prop :=
  c ≤ c' ∧ (∀ s, mk s ≠ 0 → mk' s ≠ 0) ∧ (∀ j, j < c → rc' j = rc j)
theorem xm_ext_r {mk rc : Nat → Int32} {c : Nat} : xm_ext mk rc c mk rc c := ⟨Nat.le_refl c, fun _ h => h, fun _ _ => rfl⟩
theorem xm_ext_t {mk rc mk1 rc1 mk2 rc2 : Nat → Int32} {c c1 c2 : Nat} (h : xm_ext mk rc c mk1 rc1 c1) (g : xm_ext mk1 rc1 c1 mk2 rc2 c2) : xm_ext mk rc c mk2 rc2 c2 :=
  ⟨Nat.le_trans h.1 g.1, fun s z => g.2.1 s (h.2.1 s z), fun j hj => by rw [g.2.2 j (Nat.lt_of_lt_of_le hj h.1)]; exact h.2.2 j hj⟩
theorem xm_c {rm : Nat} {R G F : Nat → Nat} {mk rc : Nat → Int32} {c : Nat} (h : xm_ok rm R G F mk rc c) : c ≤ rm := by
  rw [h.1]; exact th_cnt_le mk rm
theorem xm_start {rm : Nat} {R G F : Nat → Nat} {mk rc : Nat → Int32} (h16 : rm ≤ 16) (h : ∀ s, s < 17 → mk s = 0) : xm_ok rm R G F mk rc 0 := by
  refine ⟨(th_cnt_0 (fun s _ h2 => h s (by omega))).symm, fun s hs z => absurd (h s hs) z, fun j hj => ?_⟩
  omega
theorem xm_step {rm : Nat} {R G F : Nat → Nat} {mk rc : Nat → Int32} {c s : Nat} (h16 : rm ≤ 16) (h : xm_ok rm R G F mk rc c)
    (h1 : 1 ≤ s) (h2 : s ≤ rm) (hs : ∀ P, th_cl R G F P → P s) (h0 : mk s = 0) :
    xm_ok rm R G F (upd mk s 1) (upd rc c (nI s)) (c + 1) ∧ xm_ext mk rc c (upd mk s 1) (upd rc c (nI s)) (c + 1) := by
  obtain ⟨a, b, d⟩ := h
  refine ⟨⟨?_, fun t ht z => ?_, fun j hj => ?_⟩, Nat.le_succ c, fun t z => ?_, fun j hj => th_un (by omega)⟩
  · rw [th_cnt_in h1 h0 (by decide) h2, a]
  · by_cases q : t = s
    · rw [q]
      exact ⟨h1, h2, hs, c, by omega, th_us⟩
    · rw [th_un q] at z
      obtain ⟨b1, b2, b3, j, hj, e⟩ := b t ht z
      exact ⟨b1, b2, b3, j, by omega, by rw [th_un (by omega)]; exact e⟩
  · by_cases q : j = c
    · rw [q]
      exact ⟨s, h1, h2, th_us, by rw [th_us]; decide⟩
    · obtain ⟨t, t1, t2, t3, t4⟩ := d j (by omega)
      refine ⟨t, t1, t2, by rw [th_un q]; exact t3, ?_⟩
      by_cases w : t = s
      · rw [w, th_us]; decide
      · rw [th_un w]; exact t4
  · by_cases w : t = s
    · rw [w, th_us]; decide
    · rw [th_un w]; exact z
/-- all roots are marked, and all that the first n of the list name -/
def xm_rt (R G : Nat → Nat) (mk : Nat → Int32) : Prop := (∀ i, i < 12 → R i ≠ 0 → mk (R i) ≠ 0) ∧ (∀ g, g < 2 → G g ≠ 0 → mk (G g) ≠ 0)
def xm_done (rm : Nat) (F : Nat → Nat) (mk rc : Nat → Int32) (n : Nat) : Prop :=
  ∀ j, j < n → ∀ s, s ≤ rm → rc j = nI s → ∀ f, f < 2 → F (2 * s + f) ≠ 0 → mk (F (2 * s + f)) ≠ 0
theorem xm_rt_e {R G : Nat → Nat} {mk rc mk' rc' : Nat → Int32} {c c' : Nat} (h : xm_rt R G mk) (e : xm_ext mk rc c mk' rc' c') : xm_rt R G mk' :=
  ⟨fun i hi z => e.2.1 _ (h.1 i hi z), fun i hi z => e.2.1 _ (h.2 i hi z)⟩
theorem xm_done_e {rm : Nat} {F : Nat → Nat} {mk rc mk' rc' : Nat → Int32} {c c' n : Nat} (h : xm_done rm F mk rc n) (hn : n ≤ c) (e : xm_ext mk rc c mk' rc' c') : xm_done rm F mk' rc' n :=
  fun j hj s hs q f hf z => e.2.1 _ (h j hj s hs (by rw [← e.2.2 j (by omega)]; exact q) f hf z)
theorem xm_end {rm : Nat} {R G F : Nat → Nat} {mk rc : Nat → Int32} {c : Nat} (h16 : rm ≤ 16) (h : xm_ok rm R G F mk rc c) (hr : xm_rt R G mk)
    (hR : ∀ i, R i ≤ rm) (hG : ∀ i, G i ≤ rm) (hF : ∀ i, F i ≤ rm) (hd : xm_done rm F mk rc c) : th_lst R G F mk rm := by
  refine ⟨⟨fun i hi z => ⟨hR i, hr.1 i hi z⟩, fun i hi z => ⟨hG i, hr.2 i hi z⟩, fun s hs q f hf z => ⟨hF _, ?_⟩⟩, fun P hP s _ h2 z => (h.2.1 s (by omega) z).2.2.1 P hP⟩
  obtain ⟨_, _, _, j, hj, e⟩ := h.2.1 s (by omega) q.2
  exact hd j hj s q.1 e f hf z
/-- what every closed set holds: roots and fields of such -/
theorem xm_sR {R G F : Nat → Nat} {i : Nat} (hi : i < 12) (h : R i ≠ 0) : ∀ P, th_cl R G F P → P (R i) := fun _ hP => hP.1 i hi h
theorem xm_sG {R G F : Nat → Nat} {i : Nat} (hi : i < 2) (h : G i ≠ 0) : ∀ P, th_cl R G F P → P (G i) := fun _ hP => hP.2.1 i hi h
theorem xm_sF {R G F : Nat → Nat} {s f : Nat} (hs : s ≠ 0) (h : ∀ P, th_cl R G F P → P s) (hf : f < 2) (hz : F (2 * s + f) ≠ 0) : ∀ P, th_cl R G F P → P (F (2 * s + f)) :=
  fun P hP => hP.2.2 s hs (h P hP) f hf hz
/-- the reference's marks: sound -/
def ym_ok (m : Nat) (R G F : Nat → Nat) (a : Nat → Int32) : Prop := ∀ i, i ≤ m → a i ≠ 0 → i ≠ 0 → ∀ P, th_cl R G F P → P i
/-- the reference's marks: the roots are in -/
def ym_rt (R G : Nat → Nat) (a : Nat → Int32) : Prop := a 0 ≠ 0 ∧ (∀ i, i < 12 → a (R i) ≠ 0) ∧ (∀ g, g < 2 → a (G g) ≠ 0)
theorem ym_put {m : Nat} {R G F : Nat → Nat} {a : Nat → Int32} {x : Nat} (h : ym_ok m R G F a) (hx : x ≠ 0 → ∀ P, th_cl R G F P → P x) : ym_ok m R G F (upd a x 1) := by
  intro i hi z h0
  by_cases q : i = x
  · rw [q] at h0 ⊢; exact hx h0
  · rw [th_un q] at z; exact h i hi z h0
theorem ym_keep {a : Nat → Int32} {x s : Nat} (h : a s ≠ 0) : upd a x 1 s ≠ 0 := by
  by_cases q : s = x
  · rw [q, th_us]; decide
  · rw [th_un q]; exact h
theorem ym_self {a : Nat → Int32} {x : Nat} : upd a x 1 x ≠ 0 := by rw [th_us]; decide
theorem ym_rt_k {R G : Nat → Nat} {a : Nat → Int32} {x : Nat} (h : ym_rt R G a) : ym_rt R G (upd a x 1) :=
  ⟨ym_keep h.1, fun i hi => ym_keep (h.2.1 i hi), fun i hi => ym_keep (h.2.2 i hi)⟩
theorem ym_F {m : Nat} {R G F : Nat → Nat} {a : Nat → Int32} {i f : Nat} (h : ym_ok m R G F a) (h1 : 1 ≤ i) (h2 : i ≤ m) (ha : a i ≠ 0) (hf : f < 2) :
    F (2 * i + f) ≠ 0 → ∀ P, th_cl R G F P → P (F (2 * i + f)) :=
  fun hz P hP => hP.2.2 i (by omega) (h i h2 ha (by omega) P hP) f hf hz
theorem ym_put2 {m : Nat} {R G F : Nat → Nat} {a : Nat → Int32} {i : Nat} (h : ym_ok m R G F a) (h1 : 1 ≤ i) (h2 : i ≤ m) (ha : a i ≠ 0) :
    ym_ok m R G F (upd (upd a (F (2 * i)) 1) (F (2 * i + 1)) 1) :=
  ym_put (ym_put h (ym_F (f := 0) h h1 h2 ha (by omega))) (ym_F (f := 1) h h1 h2 ha (by omega))
theorem ym_cm {a : Nat → Int32} {x n : Nat} : th_cnt a n ≤ th_cnt (upd a x 1) n := th_cnt_mono (fun _ _ _ z => ym_keep z)
/-- marking a cell that was not marked counts one more -/
theorem ym_c1 {a : Nat → Int32} {x n : Nat} (h0 : a 0 ≠ 0) (hn : x ≤ n) (hx : a x = 0) : th_cnt (upd a x 1) n = th_cnt a n + 1 := by
  refine th_cnt_in ?_ hx (by decide) hn
  by_cases q : x = 0
  · rw [q] at hx; exact absurd hx h0
  · omega
theorem ym_c2 {a : Nat → Int32} {x y n : Nat} (h0 : a 0 ≠ 0) (hx : x ≤ n) (hy : y ≤ n) (h : a x = 0 ∨ a y = 0) : th_cnt a n < th_cnt (upd (upd a x 1) y 1) n := by
  rcases h with h | h
  · have e := ym_c1 h0 hx h
    have g : th_cnt (upd a x 1) n ≤ th_cnt (upd (upd a x 1) y 1) n := ym_cm
    omega
  · by_cases q : y = x
    · rw [q] at h
      have e := ym_c1 h0 hx h
      have g : th_cnt (upd a x 1) n ≤ th_cnt (upd (upd a x 1) y 1) n := ym_cm
      omega
    · have h' : upd a x 1 y = 0 := by rw [th_un q]; exact h
      have e := ym_c1 (a := upd a x 1) (ym_keep h0) hy h'
      have g : th_cnt a n ≤ th_cnt (upd a x 1) n := ym_cm
      omega
/-- the fields of the cells 1 .. n - 1 are in -/
def ym_cl (F : Nat → Nat) (a : Nat → Int32) (n : Nat) : Prop := ∀ i, 1 ≤ i → i < n → a i ≠ 0 → a (F (2 * i)) ≠ 0 ∧ a (F (2 * i + 1)) ≠ 0
theorem ym_end {m : Nat} {R G F : Nat → Nat} {a : Nat → Int32} (h : ym_ok m R G F a) (hr : ym_rt R G a) (hc : ym_cl F a (m + 1))
    (hR : ∀ i, R i ≤ m) (hG : ∀ i, G i ≤ m) (hF : ∀ i, F i ≤ m) : th_lst R G F a m := by
  refine ⟨⟨fun i hi _ => ⟨hR i, hr.2.1 i hi⟩, fun i hi _ => ⟨hG i, hr.2.2 i hi⟩, fun s hs q f hf _ => ⟨hF _, ?_⟩⟩, fun P hP s h1 h2 z => h s h2 z (by omega) P hP⟩
  have w := hc s (by omega) (by have := q.1; omega) q.2
  have : f = 0 ∨ f = 1 := by omega
  rcases this with rfl | rfl
  · exact w.1
  · exact w.2
