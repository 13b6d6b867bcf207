/-! what each call does to the invariant, as mathematics alone -/
theorem th_setR {k rm m p : Nat} {R G F S YF : Nat → Nat} {A : Nat → Prop} {xn tk yn : Nat → Int32} {c x k' : Nat}
    (h : th_inv k rm m p R G F S YF A xn tk yn) (hc : c < 12) (hx : x ≤ rm) (ha : x ≠ 0 → A x) (hk : k ≤ k') :
    th_inv k' rm m p (th_up R c x) G F S YF A xn tk yn := by
  obtain ⟨⟨a1, a2, a3, a4⟩, ⟨b1, b2, b3, b4, b5⟩, ⟨⟨c1, c2, c3⟩, d1, d2⟩, e⟩ := h
  refine ⟨⟨a1, a2, by omega, a4⟩, ⟨fun i => ?_, b2, b3, fun i hi => ?_, b5⟩, ⟨⟨fun i hi => ?_, c2, c3⟩, d1, d2⟩, e⟩
  · by_cases q : i = c
    · rw [q, th_ups]; exact hx
    · rw [th_upn q]; exact b1 i
  · rw [th_upn (by omega)]; exact b4 i hi
  · by_cases q : i = c
    · rw [q, th_ups]; exact ha
    · rw [th_upn q]; exact c1 i hi
theorem th_setG {k rm m p : Nat} {R G F S YF : Nat → Nat} {A : Nat → Prop} {xn tk yn : Nat → Int32} {c x k' : Nat}
    (h : th_inv k rm m p R G F S YF A xn tk yn) (hc : c < 2) (hx : x ≤ rm) (ha : x ≠ 0 → A x) (hk : k ≤ k') :
    th_inv k' rm m p R (th_up G c x) F S YF A xn tk yn := by
  obtain ⟨⟨a1, a2, a3, a4⟩, ⟨b1, b2, b3, b4, b5⟩, ⟨⟨c1, c2, c3⟩, d1, d2⟩, e⟩ := h
  refine ⟨⟨a1, a2, by omega, a4⟩, ⟨b1, fun i => ?_, b3, b4, fun i hi => ?_⟩, ⟨⟨c1, fun i hi => ?_, c3⟩, d1, d2⟩, e⟩
  · by_cases q : i = c
    · rw [q, th_ups]; exact hx
    · rw [th_upn q]; exact b2 i
  · rw [th_upn (by omega)]; exact b5 i hi
  · by_cases q : i = c
    · rw [q, th_ups]; exact ha
    · rw [th_upn q]; exact c2 i hi
theorem th_setF {k rm m p : Nat} {R G F S YF : Nat → Nat} {A : Nat → Prop} {xn tk yn : Nat → Int32} {s f x k' : Nat}
    (h : th_inv k rm m p R G F S YF A xn tk yn) (hs : A s) (hf : f < 2) (hx : x ≤ rm) (ha : x ≠ 0 → A x) (hk : k ≤ k') :
    th_inv k' rm m p R G (th_up F (2 * s + f) x) S (th_up YF (2 * S s + f) (S x)) A xn tk yn := by
  obtain ⟨⟨a1, a2, a3, a4⟩, ⟨b1, b2, b3, b4, b5⟩, ⟨⟨c1, c2, c3⟩, d1, d2⟩, e1, e2, e3, e4⟩ := h
  refine ⟨⟨a1, a2, by omega, a4⟩, ⟨b1, b2, fun i => ?_, b4, b5⟩, ⟨⟨c1, c2, fun t ht at' g hg => ?_⟩, fun t at' => ?_, d2⟩, e1, e2, fun j => ?_, e4⟩
  · by_cases q : i = 2 * s + f
    · rw [q, th_ups]; exact hx
    · rw [th_upn q]; exact b3 i
  · by_cases q : 2 * t + g = 2 * s + f
    · rw [q, th_ups]; exact ha
    · rw [th_upn q]; exact c3 t ht at' g hg
  · obtain ⟨o1, o2, o3, o4, o5, o6, o7⟩ := d1 t at'
    refine ⟨o1, o2, o3, o4, o5, o6, fun g hg => ?_⟩
    by_cases q : 2 * t + g = 2 * s + f
    · have q1 : t = s := by omega
      have q2 : g = f := by omega
      rw [q1, q2, th_ups, th_ups]
    · rw [th_upn q, th_upn]
      · exact o7 g hg
      · intro w
        have w1 : S t = S s := by omega
        have w2 := d2 t s at' hs w1
        omega
  · by_cases q : j = 2 * S s + f
    · rw [q, th_ups]; exact e4 x
    · rw [th_upn q]; exact e3 j
theorem th_setN {k rm m p : Nat} {R G F S YF : Nat → Nat} {A : Nat → Prop} {xn tk yn : Nat → Int32} {s k' : Nat} {n : Int32}
    (h : th_inv k rm m p R G F S YF A xn tk yn) (hs : A s) (hk : k ≤ k') :
    th_inv k' rm m p R G F S YF A (upd xn s n) tk (upd yn (S s) n) := by
  obtain ⟨⟨a1, a2, a3, a4⟩, b, ⟨c, d1, d2⟩, e1, e2, e3⟩ := h
  refine ⟨⟨a1, a2, by omega, a4⟩, b, ⟨c, fun t at' => ?_, d2⟩, e1, ?_, e3⟩
  · obtain ⟨o1, o2, o3, o4, o5, o6, o7⟩ := d1 t at'
    refine ⟨o1, o2, o3, o4, o5, ?_, o7⟩
    by_cases q : t = s
    · rw [q, th_us, th_us]
    · rw [th_un q, th_un]
      · exact o6
      · exact fun w => q (d2 t s at' hs w)
  · rw [th_un]
    · exact e2
    · have := (d1 s hs).1
      omega
theorem th_up1 {k rm m p : Nat} {R G F S YF : Nat → Nat} {A : Nat → Prop} {xn tk yn : Nat → Int32} {k' : Nat}
    (h : th_inv k rm m p R G F S YF A xn tk yn) (hk : k ≤ k') : th_inv k' rm m p R G F S YF A xn tk yn := by
  obtain ⟨⟨a1, a2, a3, a4⟩, b⟩ := h
  exact ⟨⟨a1, a2, by omega, a4⟩, b⟩
/-- behind a marking and a sweep the marked slots are the set A -/
theorem th_swp {k rm m p : Nat} {R G F S YF : Nat → Nat} {A : Nat → Prop} {xn tk yn mk tk' : Nat → Int32} {p' : Nat}
    (h : th_inv k rm m p R G F S YF A xn tk yn) (hm : th_lst R G F mk rm) (hp : p' ≤ rm)
    (ht : ∀ s, 1 ≤ s → s ≤ rm → mk s ≠ 0 → tk' s = tk s) :
    th_inv k rm m p' R G F S YF (fun s => 1 ≤ s ∧ s ≤ rm ∧ mk s ≠ 0) xn tk' yn := by
  obtain ⟨⟨a1, a2, a3, a4⟩, ⟨b1, b2, b3, b4, b5⟩, ⟨c, d1, d2⟩, e⟩ := h
  have hMA : ∀ s, 1 ≤ s → s ≤ rm → mk s ≠ 0 → A s := hm.2 A c
  refine ⟨⟨a1, a2, a3, hp⟩, ⟨b1, b2, b3, b4, b5⟩, ⟨⟨fun i hi q => ?_, fun i hi q => ?_, fun s hs q f hf w => ?_⟩, fun s q => ?_, fun s s' q q' => ?_⟩, e⟩
  · exact ⟨Nat.pos_of_ne_zero q, hm.1.1 i hi q⟩
  · exact ⟨Nat.pos_of_ne_zero q, hm.1.2.1 i hi q⟩
  · exact ⟨Nat.pos_of_ne_zero w, hm.1.2.2 s hs q.2 f hf w⟩
  · obtain ⟨o1, o2, o3, o4⟩ := d1 s (hMA s q.1 q.2.1 q.2.2)
    exact ⟨o1, o2, by rw [ht s q.1 q.2.1 q.2.2]; exact o3, o4⟩
  · exact d2 s s' (hMA s q.1 q.2.1 q.2.2) (hMA s' q'.1 q'.2.1 q'.2.2)
/-- a new object in a slot that is not in use -/
theorem th_new {k rm m p : Nat} {R G F S YF : Nat → Nat} {A : Nat → Prop} {xn tk yn : Nat → Int32} {s c k' : Nat} {n w : Int32}
    (h : th_inv k rm m p R G F S YF A xn tk yn) (h1 : 1 ≤ s) (h2 : s ≤ rm) (h0 : tk s = 0) (hc : c < 12) (hw : w ≠ 0) (hk : k + 5 ≤ k') :
    th_inv k' rm (m + 1) p (th_up R c s) G (th_up (th_up F (2 * s) 0) (2 * s + 1) 0) (th_up S s (m + 1))
      (th_up (th_up YF (2 * (m + 1)) 0) (2 * (m + 1) + 1) 0) (fun x => A x ∨ x = s) (upd xn s n) (upd tk s w) (upd yn (m + 1) n) := by
  obtain ⟨⟨a1, a2, a3, a4⟩, ⟨b1, b2, b3, b4, b5⟩, ⟨⟨c1, c2, c3⟩, d1, d2⟩, e1, e2, e3, e4⟩ := h
  have hA : ∀ t, A t → t ≠ s := fun t at' q => (d1 t at').2.2.1 (by rw [q]; exact h0)
  have hF0 : th_up (th_up F (2 * s) 0) (2 * s + 1) 0 (2 * s) = 0 := by rw [th_upn (by omega), th_ups]
  have hF1 : th_up (th_up F (2 * s) 0) (2 * s + 1) 0 (2 * s + 1) = 0 := th_ups
  have hFn : ∀ t g, t ≠ s → g < 2 → th_up (th_up F (2 * s) 0) (2 * s + 1) 0 (2 * t + g) = F (2 * t + g) := fun t g ht hg => by
    rw [th_upn (by omega), th_upn (by omega)]
  have hFs : ∀ g, g < 2 → th_up (th_up F (2 * s) 0) (2 * s + 1) 0 (2 * s + g) = 0 := fun g hg => by
    have : g = 0 ∨ g = 1 := by omega
    rcases this with rfl | rfl
    · exact hF0
    · exact hF1
  have hSs : th_up S s (m + 1) s = m + 1 := th_ups
  have hSn : ∀ t, t ≠ s → th_up S s (m + 1) t = S t := fun t ht => th_upn ht
  refine ⟨⟨a1, a2, by omega, a4⟩, ⟨fun i => ?_, b2, fun i => ?_, fun i hi => ?_, b5⟩, ⟨⟨fun i hi => ?_, fun g hg q => Or.inl (c2 g hg q), fun t ht at' g hg => ?_⟩, fun t at' => ?_, fun t t' at' at2 q => ?_⟩, ?_, ?_, fun j => ?_, fun t => ?_⟩
  · by_cases q : i = c
    · rw [q, th_ups]; exact h2
    · rw [th_upn q]; exact b1 i
  · by_cases q : i = 2 * s + 1
    · rw [q, hF1]; omega
    · rw [th_upn q]
      by_cases q2 : i = 2 * s
      · rw [q2, th_ups]; omega
      · rw [th_upn q2]; exact b3 i
  · rw [th_upn (by omega)]; exact b4 i hi
  · by_cases q : i = c
    · rw [q, th_ups]; exact fun _ => Or.inr rfl
    · rw [th_upn q]; exact fun z => Or.inl (c1 i hi z)
  · by_cases q : t = s
    · rw [q, hFs g hg]; exact fun z => absurd rfl z
    · rw [hFn t g q hg]
      exact fun z => Or.inl (c3 t ht (at'.resolve_right q) g hg z)
  · by_cases q : t = s
    · rw [q]
      refine ⟨h1, h2, by rw [th_us]; exact hw, by rw [hSs]; omega, by rw [hSs]; omega, by rw [hSs, th_us, th_us], fun g hg => ?_⟩
      rw [hFs g hg, hSs, hSn 0 (by omega), e1]
      have : g = 0 ∨ g = 1 := by omega
      rcases this with rfl | rfl
      · rw [th_upn (by omega)]; exact th_ups
      · rw [th_ups]
    · have at2 := at'.resolve_right q
      obtain ⟨o1, o2, o3, o4, o5, o6, o7⟩ := d1 t at2
      refine ⟨o1, o2, by rw [th_un q]; exact o3, by rw [hSn t q]; exact o4, by rw [hSn t q]; omega, by rw [hSn t q, th_un q, th_un (by omega)]; exact o6, fun g hg => ?_⟩
      rw [hSn t q, hFn t g q hg, th_upn (by omega), th_upn (by omega), o7 g hg]
      refine (hSn _ ?_).symm
      intro z
      by_cases z0 : F (2 * t + g) = 0
      · omega
      · exact hA _ (c3 t (by omega) at2 g hg z0) z
  · by_cases q1 : t = s
    · by_cases q2 : t' = s
      · rw [q1, q2]
      · have o := (d1 t' (at2.resolve_right q2)).2.2.2.2.1
        rw [q1, hSs, hSn t' q2] at q
        omega
    · have at3 := at'.resolve_right q1
      by_cases q2 : t' = s
      · have o := (d1 t at3).2.2.2.2.1
        rw [q2, hSs, hSn t q1] at q
        omega
      · rw [hSn t q1, hSn t' q2] at q
        exact d2 t t' at3 (at2.resolve_right q2) q
  · rw [hSn 0 (by omega)]; exact e1
  · rw [th_un (by omega)]; exact e2
  · by_cases q : j = 2 * (m + 1) + 1
    · rw [q, th_ups]; omega
    · rw [th_upn q]
      by_cases q2 : j = 2 * (m + 1)
      · rw [q2, th_ups]; omega
      · rw [th_upn q2]; have := e3 j; omega
  · by_cases q : t = s
    · rw [q, hSs]; omega
    · rw [hSn t q]; have := e4 t; omega
/-- no root names a slot that is not in use -/
theorem th_nR {k rm m p : Nat} {R G F S YF : Nat → Nat} {A : Nat → Prop} {xn tk yn : Nat → Int32} {s : Nat}
    (h : th_inv k rm m p R G F S YF A xn tk yn) (h1 : 1 ≤ s) (h0 : tk s = 0) : (∀ i, R i ≠ s) ∧ (∀ g, G g ≠ s) := by
  obtain ⟨_, ⟨_, _, _, b4, b5⟩, ⟨⟨c1, c2, _⟩, d1, _⟩, _⟩ := h
  have hA : ∀ t, A t → t ≠ s := fun t at' q => (d1 t at').2.2.1 (by rw [q]; exact h0)
  refine ⟨fun i => ?_, fun g => ?_⟩
  · by_cases q : i < 12
    · by_cases z : R i = 0
      · omega
      · exact hA _ (c1 i q z)
    · have := b4 i (by omega); omega
  · by_cases q : g < 2
    · by_cases z : G g = 0
      · omega
      · exact hA _ (c2 g q z)
    · have := b5 g (by omega); omega
/-- the reference's roots behind a new object -/
theorem th_newR {R S : Nat → Nat} {s c m : Nat} (h : ∀ i, R i ≠ s) :
    th_up (fun i => S (R i)) c (m + 1) = fun i => th_up S s (m + 1) (th_up R c s i) := by
  funext i
  by_cases q : i = c
  · rw [q, th_ups, th_ups, th_ups]
  · rw [th_upn q, th_upn q, th_upn (h i)]
theorem th_newG {G S : Nat → Nat} {s m : Nat} (h : ∀ i, G i ≠ s) :
    (fun i => S (G i)) = fun i => th_up S s (m + 1) (G i) := by
  funext i
  rw [th_upn (h i)]
/-- a slot that is not in use: not every slot is live -/
theorem th_room {k rm m p : Nat} {R G F S YF : Nat → Nat} {A : Nat → Prop} {xn tk yn mk : Nat → Int32} {s : Nat}
    (h : th_inv k rm m p R G F S YF A xn tk yn) (hm : th_lst R G F mk rm) (h1 : 1 ≤ s) (h2 : s ≤ rm) (h0 : tk s = 0) : th_cnt mk rm < rm := by
  obtain ⟨_, _, ⟨c, d1, _⟩, _⟩ := h
  refine th_cnt_lt h1 h2 ?_
  by_cases z : mk s = 0
  · exact z
  · exact absurd h0 (d1 s (hm.2 A c s h1 h2 z)).2.2.1
/-- there is a least closed set, as an array -/
theorem th_has (R G F : Nat → Nat) (n : Nat) (hR : ∀ i, R i ≤ n) (hG : ∀ i, G i ≤ n) (hF : ∀ i, F i ≤ n) : ∃ mk : Nat → Int32, th_lst R G F mk n := by
  have dec : ∀ s, ∃ v : Int32, v ≠ 0 ↔ ∀ P, th_cl R G F P → P s := by
    intro s
    by_cases z : ∀ P, th_cl R G F P → P s
    · exact ⟨1, fun _ => z, fun _ => by decide⟩
    · exact ⟨0, fun w => absurd rfl w, fun w => absurd w z⟩
  refine ⟨fun s => (dec s).choose, ⟨fun i hi q => ⟨hR i, ?_⟩, fun i hi q => ⟨hG i, ?_⟩, fun s hs q f hf w => ⟨hF _, ?_⟩⟩, fun P hP s _ _ q => ?_⟩
  · exact (dec _).choose_spec.mpr (fun P hP => hP.1 i hi q)
  · exact (dec _).choose_spec.mpr (fun P hP => hP.2.1 i hi q)
  · exact (dec _).choose_spec.mpr (fun P hP => hP.2.2 s hs ((dec s).choose_spec.mp q.2 P hP) f hf w)
  · exact (dec s).choose_spec.mp q P hP
