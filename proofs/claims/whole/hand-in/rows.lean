section
theorem pk_mul (a b : Nat) : nI a * nI b = nI (a * b) := (Int32.ofNat_mul a b).symm
theorem pk_ix (x : Int32) {n : Nat} (hn : n < 2 ^ 31) : x < 0 ∨ nI n ≤ x ∨ ∃ j : Nat, j < n ∧ x = nI j := by
  by_cases h : x < 0
  · exact Or.inl h
  · obtain ⟨j, hj, rfl⟩ := nI_of h
    by_cases h2 : j < n
    · exact Or.inr (Or.inr ⟨j, h2, rfl⟩)
    · exact Or.inr (Or.inl (nI_le (by omega) hj))
theorem pk_le {x y : Int32} {A B : Prop} (a b : Nat) (f : a ≤ b → A) (g : b < a → B) (hx : x = nI a := by rfl) (hy : y = nI b := by rfl) (ha : a < 2 ^ 31 := by omega) (hb : b < 2 ^ 31 := by omega) : (x ≤ y → A) ∧ (¬ x ≤ y → B) := by
  subst hx hy
  rw [nI_leI ha hb]
  exact ⟨f, fun z => g (by omega)⟩
theorem pk_lt {x y : Int32} {A B : Prop} (a b : Nat) (f : a < b → A) (g : b ≤ a → B) (hx : x = nI a := by rfl) (hy : y = nI b := by rfl) (ha : a < 2 ^ 31 := by omega) (hb : b < 2 ^ 31 := by omega) : (x < y → A) ∧ (¬ x < y → B) := by
  subst hx hy
  rw [nI_ltI ha hb]
  exact ⟨f, fun z => g (by omega)⟩
theorem pk_eq {x y : Int32} {A B : Prop} (a b : Nat) (f : a = b → A) (g : a ≠ b → B) (hx : x = nI a := by rfl) (hy : y = nI b := by rfl) (ha : a < 2 ^ 31 := by omega) (hb : b < 2 ^ 31 := by omega) : (x = y → A) ∧ (¬ x = y → B) := by
  subst hx hy
  rw [nI_eq ha hb]
  exact ⟨f, g⟩
theorem pk_in {x : Int32} (n N : Nat) (h : n < N) (hx : x = nI n := by rfl) (hN : N < 2 ^ 31 := by omega) : vp_in x N := by
  subst hx
  exact vp_in_nI h hN
theorem pk_cl {x : Int32} (n : Nat) (hx : x = nI n := by rfl) (h : n < 2 ^ 31 := by omega) : x.toNatClampNeg = n := by
  subst hx
  exact nI_clamp h
theorem pk_loop {σ : Type} (W : Nat → Nat → σ → Prop) (I : Nat → σ → Prop) (e i0 : Nat) (s : σ) (hi : i0 ≤ e) (h0 : I i0 s) (hx : ∀ n s, I e s → W (n + 1) e s)
    (hs : ∀ n i s, i < e → I i s → (∀ s', I (i + 1) s' → W n (i + 1) s') → W (n + 1) i s) : ∃ n, W n i0 s :=
  ⟨e + 1, loop_i W I e hx hs (e + 1) i0 s hi (by omega) h0⟩
theorem lp3 {A1 A2 A3 : Type} (W : Nat → A1 → A2 → A3 → Prop) (I : A1 → A2 → A3 → Prop) (μ : A1 → A2 → A3 → Nat) (hs : ∀ (n : Nat) (a1 : A1) (a2 : A2) (a3 : A3), I a1 a2 a3 → (∀ (b1 : A1) (b2 : A2) (b3 : A3), I b1 b2 b3 → μ b1 b2 b3 < μ a1 a2 a3 → W n b1 b2 b3) → W (n + 1) a1 a2 a3) (a1 : A1) (a2 : A2) (a3 : A3) (h : I a1 a2 a3) : ∃ n, W n a1 a2 a3 :=
  loop_m (σ := A1 × A2 × A3) (fun n s => W n s.1 s.2.1 s.2.2) (fun s => I s.1 s.2.1 s.2.2) (fun s => μ s.1 s.2.1 s.2.2) (fun n s hI hk => hs n s.1 s.2.1 s.2.2 hI (fun b1 b2 b3 h9 hm => hk (b1, b2, b3) h9 hm)) (a1, a2, a3) h
end
section
/-! counts, least closed sets, and the bridge between the two heaps -/
theorem th_us {f : Nat → Int32} {k : Nat} {x : Int32} : upd f k x k = x := by simp [upd]
theorem th_un {f : Nat → Int32} {k j : Nat} {x : Int32} (h : j ≠ k) : upd f k x j = f j := by simp [upd, h]
/-- an array of naturals with v at k -/
def th_up (f : Nat → Nat) (k v : Nat) : Nat → Nat := fun j => if j = k then v else f j
theorem th_ups {f : Nat → Nat} {k v : Nat} : th_up f k v k = v := by simp [th_up]
theorem th_upn {f : Nat → Nat} {k j v : Nat} (h : j ≠ k) : th_up f k v j = f j := by simp [th_up, h]
theorem th_upd {f : Nat → Nat} {k v : Nat} : upd (fun i => nI (f i)) k (nI v) = fun i => nI (th_up f k v i) := by
  funext j
  by_cases e : j = k
  · rw [e, th_us, th_ups]
  · rw [th_un e, th_upn e]
/-- the number of cells 1 .. n of an array that are not 0 -/
def th_cnt (a : Nat → Int32) : Nat → Nat
  | 0 => 0
  | n + 1 => th_cnt a n + (if a (n + 1) = 0 then 0 else 1)
theorem th_cnt_le (a : Nat → Int32) : ∀ n, th_cnt a n ≤ n := by
  intro n
  induction n with
  | zero => exact Nat.le_refl 0
  | succ n ih =>
    show th_cnt a n + (if a (n + 1) = 0 then 0 else 1) ≤ n + 1
    split <;> omega
theorem th_cnt_congr {a b : Nat → Int32} : ∀ {n : Nat}, (∀ s, 1 ≤ s → s ≤ n → (a s = 0 ↔ b s = 0)) → th_cnt a n = th_cnt b n := by
  intro n
  induction n with
  | zero => intro _; rfl
  | succ n ih =>
    intro h
    have e := ih (fun s h1 h2 => h s h1 (by omega))
    have hn := h (n + 1) (by omega) (by omega)
    show th_cnt a n + (if a (n + 1) = 0 then 0 else 1) = th_cnt b n + (if b (n + 1) = 0 then 0 else 1)
    rw [e]
    by_cases z : a (n + 1) = 0
    · rw [if_pos z, if_pos (hn.mp z)]
    · rw [if_neg z, if_neg (fun w => z (hn.mpr w))]
theorem th_cnt_0 {a : Nat → Int32} {n : Nat} (h : ∀ s, 1 ≤ s → s ≤ n → a s = 0) : th_cnt a n = 0 := by
  induction n with
  | zero => rfl
  | succ n ih =>
    show th_cnt a n + (if a (n + 1) = 0 then 0 else 1) = 0
    rw [ih (fun s h1 h2 => h s h1 (by omega)), if_pos (h (n + 1) (by omega) (by omega))]
theorem th_cnt_in {a : Nat → Int32} {k : Nat} {v : Int32} (hk : 1 ≤ k) (ha : a k = 0) (hv : v ≠ 0) : ∀ {n : Nat}, k ≤ n → th_cnt (upd a k v) n = th_cnt a n + 1 := by
  intro n
  induction n with
  | zero => intro h; omega
  | succ n ih =>
    intro h
    show th_cnt (upd a k v) n + (if upd a k v (n + 1) = 0 then 0 else 1) = th_cnt a n + (if a (n + 1) = 0 then 0 else 1) + 1
    by_cases e : k = n + 1
    · have h1 : th_cnt (upd a k v) n = th_cnt a n := th_cnt_congr (fun s _ h2 => by rw [th_un (by omega)])
      rw [h1, ← e, th_us, if_neg hv, if_pos ha]
    · rw [ih (by omega), th_un (fun z => e z.symm)]
      omega
theorem th_cnt_out {a : Nat → Int32} {k n : Nat} (hk : 1 ≤ k) (hn : k ≤ n) (ha : a k ≠ 0) : th_cnt (upd a k 0) n + 1 = th_cnt a n := by
  rw [← th_cnt_in (a := upd a k 0) (v := a k) hk th_us ha hn]
  refine th_cnt_congr (fun s _ _ => ?_)
  by_cases e : s = k
  · rw [e, th_us]
  · rw [th_un e, th_un e]
theorem th_cnt_mono {a b : Nat → Int32} : ∀ {n : Nat}, (∀ s, 1 ≤ s → s ≤ n → a s ≠ 0 → b s ≠ 0) → th_cnt a n ≤ th_cnt b n := by
  intro n
  induction n with
  | zero => intro _; exact Nat.le_refl 0
  | succ n ih =>
    intro h
    have e := ih (fun s h1 h2 => h s h1 (by omega))
    have hn := h (n + 1) (by omega) (by omega)
    show th_cnt a n + (if a (n + 1) = 0 then 0 else 1) ≤ th_cnt b n + (if b (n + 1) = 0 then 0 else 1)
    by_cases z : a (n + 1) = 0
    · rw [if_pos z]; omega
    · rw [if_neg z, if_neg (hn z)]; omega
theorem th_cnt_full {a : Nat → Int32} : ∀ {n : Nat}, (∀ s, 1 ≤ s → s ≤ n → a s ≠ 0) → th_cnt a n = n := by
  intro n
  induction n with
  | zero => intro _; rfl
  | succ n ih =>
    intro h
    show th_cnt a n + (if a (n + 1) = 0 then 0 else 1) = n + 1
    rw [ih (fun s h1 h2 => h s h1 (by omega)), if_neg (h (n + 1) (by omega) (by omega))]
theorem th_cnt_lt {a : Nat → Int32} {k n : Nat} (hk : 1 ≤ k) (hn : k ≤ n) (ha : a k = 0) : th_cnt a n < n := by
  have h := th_cnt_in (a := a) (v := 1) hk ha (by decide) hn
  have h2 := th_cnt_le (upd a k 1) n
  omega
theorem th_cnt_bij {a : Nat → Int32} {m : Nat} {S : Nat → Nat} : ∀ {n : Nat} {b : Nat → Int32},
    (∀ s, 1 ≤ s → s ≤ n → a s ≠ 0 → 1 ≤ S s ∧ S s ≤ m ∧ b (S s) ≠ 0) →
    (∀ s s', 1 ≤ s → s ≤ n → a s ≠ 0 → 1 ≤ s' → s' ≤ n → a s' ≠ 0 → S s = S s' → s = s') →
    (∀ i, 1 ≤ i → i ≤ m → b i ≠ 0 → ∃ s, 1 ≤ s ∧ s ≤ n ∧ a s ≠ 0 ∧ S s = i) → th_cnt a n = th_cnt b m := by
  intro n
  induction n with
  | zero =>
    intro b _ _ h3
    show 0 = th_cnt b m
    refine (th_cnt_0 (fun i h1 h2 => ?_)).symm
    by_cases z : b i = 0
    · exact z
    · obtain ⟨s, s1, s2, _⟩ := h3 i h1 h2 z
      omega
  | succ n ih =>
    intro b h1 h2 h3
    show th_cnt a n + (if a (n + 1) = 0 then 0 else 1) = th_cnt b m
    by_cases z : a (n + 1) = 0
    · rw [if_pos z, Nat.add_zero]
      refine ih (fun s p q => h1 s p (by omega)) (fun s s' p q r p' q' r' => h2 s s' p (by omega) r p' (by omega) r') (fun i p q r => ?_)
      obtain ⟨s, s1, s2, s3, s4⟩ := h3 i p q r
      refine ⟨s, s1, ?_, s3, s4⟩
      by_cases e : s = n + 1
      · rw [e] at s3; exact absurd z s3
      · omega
    · rw [if_neg z]
      obtain ⟨q1, q2, q3⟩ := h1 (n + 1) (by omega) (by omega) z
      rw [← th_cnt_out q1 q2 q3]
      refine congrArg (fun x => x + 1) (ih (fun s p q r => ?_) (fun s s' p q r p' q' r' => h2 s s' p (by omega) r p' (by omega) r') (fun i p q r => ?_))
      · obtain ⟨t1, t2, t3⟩ := h1 s p (by omega) r
        refine ⟨t1, t2, ?_⟩
        rw [th_un]
        · exact t3
        · intro e
          have := h2 s (n + 1) p (by omega) r (by omega) (by omega) z e
          omega
      · by_cases e : i = S (n + 1)
        · rw [e, th_us] at r; exact absurd rfl r
        · rw [th_un e] at r
          obtain ⟨s, s1, s2, s3, s4⟩ := h3 i p q r
          refine ⟨s, s1, ?_, s3, s4⟩
          by_cases e' : s = n + 1
          · rw [e'] at s4; exact absurd s4.symm e
          · omega
/-- P holds what the roots name, and what the fields of its members name -/
def th_cl (R G F : Nat → Nat) (P : Nat → Prop) : Prop :=
  (∀ i, i < 12 → R i ≠ 0 → P (R i)) ∧ (∀ g, g < 2 → G g ≠ 0 → P (G g)) ∧
  (∀ s, s ≠ 0 → P s → ∀ f, f < 2 → F (2 * s + f) ≠ 0 → P (F (2 * s + f)))
/-- the cells 1 .. n of a that are not 0 are the least such set -/
def th_lst (R G F : Nat → Nat) (a : Nat → Int32) (n : Nat) : Prop :=
  th_cl R G F (fun s => s ≤ n ∧ a s ≠ 0) ∧ ∀ P : Nat → Prop, th_cl R G F P → ∀ s, 1 ≤ s → s ≤ n → a s ≠ 0 → P s
/-- what a live slot is: a slot in use, tied to its object by the serial number -/
def th_obj (rm m : Nat) (F S YF : Nat → Nat) (xn tk yn : Nat → Int32) (s : Nat) : Prop :=
  1 ≤ s ∧ s ≤ rm ∧ tk s ≠ 0 ∧ 1 ≤ S s ∧ S s ≤ m ∧ yn (S s) = xn s ∧ ∀ f, f < 2 → YF (2 * S s + f) = S (F (2 * s + f))
/-- the invariant: A is a set of slots that holds every live one -/
def th_inv (k rm m p : Nat) (R G F S YF : Nat → Nat) (A : Nat → Prop) (xn tk yn : Nat → Int32) : Prop :=
  (4 ≤ rm ∧ rm ≤ 16 ∧ 5 * m + 1 ≤ k ∧ p ≤ rm) ∧
  ((∀ i, R i ≤ rm) ∧ (∀ i, G i ≤ rm) ∧ (∀ i, F i ≤ rm) ∧ (∀ i, 12 ≤ i → R i = 0) ∧ (∀ g, 2 ≤ g → G g = 0)) ∧
  (th_cl R G F A ∧ (∀ s, A s → th_obj rm m F S YF xn tk yn s) ∧ (∀ s s', A s → A s' → S s = S s' → s = s')) ∧
  (S 0 = 0 ∧ xn 0 = 0 ∧ (∀ j, YF j ≤ m) ∧ (∀ s, S s ≤ m))
theorem th_bridge {k rm m p : Nat} {R G F S YF : Nat → Nat} {A : Nat → Prop} {xn tk yn mk yr : Nat → Int32}
    (h : th_inv k rm m p R G F S YF A xn tk yn) (hX : th_lst R G F mk rm)
    (hY : th_lst (fun i => S (R i)) (fun g => S (G g)) YF yr m) : th_cnt mk rm = th_cnt yr m := by
  obtain ⟨_, _, ⟨hAc, hAo, hAi⟩, hS0, _⟩ := h
  have hMA : ∀ s, 1 ≤ s → s ≤ rm → mk s ≠ 0 → A s := hX.2 A hAc
  have hne : ∀ s, A s → S s ≠ 0 := fun s a => by have := (hAo s a).2.2.2.1; omega
  have h1 : ∀ s, 1 ≤ s → s ≤ rm → mk s ≠ 0 → A s ∧ yr (S s) ≠ 0 := by
    refine hX.2 (fun s => A s ∧ yr (S s) ≠ 0) ⟨fun i hi e => ?_, fun i hi e => ?_, fun s hs a f hf e => ?_⟩
    · have a := hAc.1 i hi e
      exact ⟨a, (hY.1.1 i hi (hne _ a)).2⟩
    · have a := hAc.2.1 i hi e
      exact ⟨a, (hY.1.2.1 i hi (hne _ a)).2⟩
    · have b := hAc.2.2 s hs a.1 f hf e
      have o := hAo s a.1
      have q := o.2.2.2.2.2.2 f hf
      have w := hY.1.2.2 (S s) (hne s a.1) ⟨o.2.2.2.2.1, a.2⟩ f hf (by rw [q]; exact hne _ b)
      rw [q] at w
      exact ⟨b, w.2⟩
  have hz : ∀ x, S x ≠ 0 → x ≠ 0 := fun x e z => e (by rw [z]; exact hS0)
  have h2 : ∀ i, 1 ≤ i → i ≤ m → yr i ≠ 0 → ∃ s, 1 ≤ s ∧ s ≤ rm ∧ mk s ≠ 0 ∧ S s = i := by
    refine hY.2 (fun i => ∃ s, 1 ≤ s ∧ s ≤ rm ∧ mk s ≠ 0 ∧ S s = i) ⟨fun i hi e => ?_, fun i hi e => ?_, fun i hi a f hf e => ?_⟩
    · have w := hX.1.1 i hi (hz _ e)
      exact ⟨R i, Nat.pos_of_ne_zero (hz _ e), w.1, w.2, rfl⟩
    · have w := hX.1.2.1 i hi (hz _ e)
      exact ⟨G i, Nat.pos_of_ne_zero (hz _ e), w.1, w.2, rfl⟩
    · obtain ⟨s, s1, s2, s3, rfl⟩ := a
      have q := (hAo s (hMA s s1 s2 s3)).2.2.2.2.2.2 f hf
      rw [q] at e
      have w := hX.1.2.2 s (by omega) ⟨s2, s3⟩ f hf (hz _ e)
      rw [q]
      exact ⟨F (2 * s + f), Nat.pos_of_ne_zero (hz _ e), w.1, w.2, rfl⟩
  refine th_cnt_bij (S := S) (fun s a b c => ?_) (fun s s' a b c a' b' c' e => ?_) h2
  · have w := h1 s a b c
    have o := hAo s w.1
    exact ⟨o.2.2.2.1, o.2.2.2.2.1, w.2⟩
  · exact hAi s s' (hMA s a b c) (hMA s' a' b' c') e
end
section
/-! what each call does to the invariant, as mathematics alone -/
theorem th_setR {k rm m p : Nat} {R G F S YF : Nat → Nat} {A : Nat → Prop} {xn tk yn : Nat → Int32} {c x k' : Nat}
    (h : th_inv k rm m p R G F S YF A xn tk yn) (hc : c < 12) (hx : x ≤ rm) (ha : x ≠ 0 → A x) (hk : k ≤ k') :
    th_inv k' rm m p (th_up R c x) G F S YF A xn tk yn := by
  obtain ⟨⟨a1, a2, a3, a4⟩, ⟨b1, b2, b3, b4, b5⟩, ⟨⟨c1, c2, c3⟩, d1, d2⟩, e⟩ := h
  refine ⟨⟨a1, a2, by omega, a4⟩, ⟨fun i => ?_, b2, b3, fun i hi => ?_, b5⟩, ⟨⟨fun i hi => ?_, c2, c3⟩, d1, d2⟩, e⟩
  · by_cases q : i = c
    · rw [q, th_ups]; exact hx
    · rw [th_upn q]; exact b1 i
  · rw [th_upn (by omega)]; exact b4 i hi
  · by_cases q : i = c
    · rw [q, th_ups]; exact ha
    · rw [th_upn q]; exact c1 i hi
theorem th_setG {k rm m p : Nat} {R G F S YF : Nat → Nat} {A : Nat → Prop} {xn tk yn : Nat → Int32} {c x k' : Nat}
    (h : th_inv k rm m p R G F S YF A xn tk yn) (hc : c < 2) (hx : x ≤ rm) (ha : x ≠ 0 → A x) (hk : k ≤ k') :
    th_inv k' rm m p R (th_up G c x) F S YF A xn tk yn := by
  obtain ⟨⟨a1, a2, a3, a4⟩, ⟨b1, b2, b3, b4, b5⟩, ⟨⟨c1, c2, c3⟩, d1, d2⟩, e⟩ := h
  refine ⟨⟨a1, a2, by omega, a4⟩, ⟨b1, fun i => ?_, b3, b4, fun i hi => ?_⟩, ⟨⟨c1, fun i hi => ?_, c3⟩, d1, d2⟩, e⟩
  · by_cases q : i = c
    · rw [q, th_ups]; exact hx
    · rw [th_upn q]; exact b2 i
  · rw [th_upn (by omega)]; exact b5 i hi
  · by_cases q : i = c
    · rw [q, th_ups]; exact ha
    · rw [th_upn q]; exact c2 i hi
theorem th_setF {k rm m p : Nat} {R G F S YF : Nat → Nat} {A : Nat → Prop} {xn tk yn : Nat → Int32} {s f x k' : Nat}
    (h : th_inv k rm m p R G F S YF A xn tk yn) (hs : A s) (hf : f < 2) (hx : x ≤ rm) (ha : x ≠ 0 → A x) (hk : k ≤ k') :
    th_inv k' rm m p R G (th_up F (2 * s + f) x) S (th_up YF (2 * S s + f) (S x)) A xn tk yn := by
  obtain ⟨⟨a1, a2, a3, a4⟩, ⟨b1, b2, b3, b4, b5⟩, ⟨⟨c1, c2, c3⟩, d1, d2⟩, e1, e2, e3, e4⟩ := h
  refine ⟨⟨a1, a2, by omega, a4⟩, ⟨b1, b2, fun i => ?_, b4, b5⟩, ⟨⟨c1, c2, fun t ht at' g hg => ?_⟩, fun t at' => ?_, d2⟩, e1, e2, fun j => ?_, e4⟩
  · by_cases q : i = 2 * s + f
    · rw [q, th_ups]; exact hx
    · rw [th_upn q]; exact b3 i
  · by_cases q : 2 * t + g = 2 * s + f
    · rw [q, th_ups]; exact ha
    · rw [th_upn q]; exact c3 t ht at' g hg
  · obtain ⟨o1, o2, o3, o4, o5, o6, o7⟩ := d1 t at'
    refine ⟨o1, o2, o3, o4, o5, o6, fun g hg => ?_⟩
    by_cases q : 2 * t + g = 2 * s + f
    · have q1 : t = s := by omega
      have q2 : g = f := by omega
      rw [q1, q2, th_ups, th_ups]
    · rw [th_upn q, th_upn]
      · exact o7 g hg
      · intro w
        have w1 : S t = S s := by omega
        have w2 := d2 t s at' hs w1
        omega
  · by_cases q : j = 2 * S s + f
    · rw [q, th_ups]; exact e4 x
    · rw [th_upn q]; exact e3 j
theorem th_setN {k rm m p : Nat} {R G F S YF : Nat → Nat} {A : Nat → Prop} {xn tk yn : Nat → Int32} {s k' : Nat} {n : Int32}
    (h : th_inv k rm m p R G F S YF A xn tk yn) (hs : A s) (hk : k ≤ k') :
    th_inv k' rm m p R G F S YF A (upd xn s n) tk (upd yn (S s) n) := by
  obtain ⟨⟨a1, a2, a3, a4⟩, b, ⟨c, d1, d2⟩, e1, e2, e3⟩ := h
  refine ⟨⟨a1, a2, by omega, a4⟩, b, ⟨c, fun t at' => ?_, d2⟩, e1, ?_, e3⟩
  · obtain ⟨o1, o2, o3, o4, o5, o6, o7⟩ := d1 t at'
    refine ⟨o1, o2, o3, o4, o5, ?_, o7⟩
    by_cases q : t = s
    · rw [q, th_us, th_us]
    · rw [th_un q, th_un]
      · exact o6
      · exact fun w => q (d2 t s at' hs w)
  · rw [th_un]
    · exact e2
    · have := (d1 s hs).1
      omega
theorem th_up1 {k rm m p : Nat} {R G F S YF : Nat → Nat} {A : Nat → Prop} {xn tk yn : Nat → Int32} {k' : Nat}
    (h : th_inv k rm m p R G F S YF A xn tk yn) (hk : k ≤ k') : th_inv k' rm m p R G F S YF A xn tk yn := by
  obtain ⟨⟨a1, a2, a3, a4⟩, b⟩ := h
  exact ⟨⟨a1, a2, by omega, a4⟩, b⟩
/-- behind a marking and a sweep the marked slots are the set A -/
theorem th_swp {k rm m p : Nat} {R G F S YF : Nat → Nat} {A : Nat → Prop} {xn tk yn mk tk' : Nat → Int32} {p' : Nat}
    (h : th_inv k rm m p R G F S YF A xn tk yn) (hm : th_lst R G F mk rm) (hp : p' ≤ rm)
    (ht : ∀ s, 1 ≤ s → s ≤ rm → mk s ≠ 0 → tk' s = tk s) :
    th_inv k rm m p' R G F S YF (fun s => 1 ≤ s ∧ s ≤ rm ∧ mk s ≠ 0) xn tk' yn := by
  obtain ⟨⟨a1, a2, a3, a4⟩, ⟨b1, b2, b3, b4, b5⟩, ⟨c, d1, d2⟩, e⟩ := h
  have hMA : ∀ s, 1 ≤ s → s ≤ rm → mk s ≠ 0 → A s := hm.2 A c
  refine ⟨⟨a1, a2, a3, hp⟩, ⟨b1, b2, b3, b4, b5⟩, ⟨⟨fun i hi q => ?_, fun i hi q => ?_, fun s hs q f hf w => ?_⟩, fun s q => ?_, fun s s' q q' => ?_⟩, e⟩
  · exact ⟨Nat.pos_of_ne_zero q, hm.1.1 i hi q⟩
  · exact ⟨Nat.pos_of_ne_zero q, hm.1.2.1 i hi q⟩
  · exact ⟨Nat.pos_of_ne_zero w, hm.1.2.2 s hs q.2 f hf w⟩
  · obtain ⟨o1, o2, o3, o4⟩ := d1 s (hMA s q.1 q.2.1 q.2.2)
    exact ⟨o1, o2, by rw [ht s q.1 q.2.1 q.2.2]; exact o3, o4⟩
  · exact d2 s s' (hMA s q.1 q.2.1 q.2.2) (hMA s' q'.1 q'.2.1 q'.2.2)
/-- a new object in a slot that is not in use -/
theorem th_new {k rm m p : Nat} {R G F S YF : Nat → Nat} {A : Nat → Prop} {xn tk yn : Nat → Int32} {s c k' : Nat} {n w : Int32}
    (h : th_inv k rm m p R G F S YF A xn tk yn) (h1 : 1 ≤ s) (h2 : s ≤ rm) (h0 : tk s = 0) (hc : c < 12) (hw : w ≠ 0) (hk : k + 5 ≤ k') :
    th_inv k' rm (m + 1) p (th_up R c s) G (th_up (th_up F (2 * s) 0) (2 * s + 1) 0) (th_up S s (m + 1))
      (th_up (th_up YF (2 * (m + 1)) 0) (2 * (m + 1) + 1) 0) (fun x => A x ∨ x = s) (upd xn s n) (upd tk s w) (upd yn (m + 1) n) := by
  obtain ⟨⟨a1, a2, a3, a4⟩, ⟨b1, b2, b3, b4, b5⟩, ⟨⟨c1, c2, c3⟩, d1, d2⟩, e1, e2, e3, e4⟩ := h
  have hA : ∀ t, A t → t ≠ s := fun t at' q => (d1 t at').2.2.1 (by rw [q]; exact h0)
  have hF0 : th_up (th_up F (2 * s) 0) (2 * s + 1) 0 (2 * s) = 0 := by rw [th_upn (by omega), th_ups]
  have hF1 : th_up (th_up F (2 * s) 0) (2 * s + 1) 0 (2 * s + 1) = 0 := th_ups
  have hFn : ∀ t g, t ≠ s → g < 2 → th_up (th_up F (2 * s) 0) (2 * s + 1) 0 (2 * t + g) = F (2 * t + g) := fun t g ht hg => by
    rw [th_upn (by omega), th_upn (by omega)]
  have hFs : ∀ g, g < 2 → th_up (th_up F (2 * s) 0) (2 * s + 1) 0 (2 * s + g) = 0 := fun g hg => by
    have : g = 0 ∨ g = 1 := by omega
    rcases this with rfl | rfl
    · exact hF0
    · exact hF1
  have hSs : th_up S s (m + 1) s = m + 1 := th_ups
  have hSn : ∀ t, t ≠ s → th_up S s (m + 1) t = S t := fun t ht => th_upn ht
  refine ⟨⟨a1, a2, by omega, a4⟩, ⟨fun i => ?_, b2, fun i => ?_, fun i hi => ?_, b5⟩, ⟨⟨fun i hi => ?_, fun g hg q => Or.inl (c2 g hg q), fun t ht at' g hg => ?_⟩, fun t at' => ?_, fun t t' at' at2 q => ?_⟩, ?_, ?_, fun j => ?_, fun t => ?_⟩
  · by_cases q : i = c
    · rw [q, th_ups]; exact h2
    · rw [th_upn q]; exact b1 i
  · by_cases q : i = 2 * s + 1
    · rw [q, hF1]; omega
    · rw [th_upn q]
      by_cases q2 : i = 2 * s
      · rw [q2, th_ups]; omega
      · rw [th_upn q2]; exact b3 i
  · rw [th_upn (by omega)]; exact b4 i hi
  · by_cases q : i = c
    · rw [q, th_ups]; exact fun _ => Or.inr rfl
    · rw [th_upn q]; exact fun z => Or.inl (c1 i hi z)
  · by_cases q : t = s
    · rw [q, hFs g hg]; exact fun z => absurd rfl z
    · rw [hFn t g q hg]
      exact fun z => Or.inl (c3 t ht (at'.resolve_right q) g hg z)
  · by_cases q : t = s
    · rw [q]
      refine ⟨h1, h2, by rw [th_us]; exact hw, by rw [hSs]; omega, by rw [hSs]; omega, by rw [hSs, th_us, th_us], fun g hg => ?_⟩
      rw [hFs g hg, hSs, hSn 0 (by omega), e1]
      have : g = 0 ∨ g = 1 := by omega
      rcases this with rfl | rfl
      · rw [th_upn (by omega)]; exact th_ups
      · rw [th_ups]
    · have at2 := at'.resolve_right q
      obtain ⟨o1, o2, o3, o4, o5, o6, o7⟩ := d1 t at2
      refine ⟨o1, o2, by rw [th_un q]; exact o3, by rw [hSn t q]; exact o4, by rw [hSn t q]; omega, by rw [hSn t q, th_un q, th_un (by omega)]; exact o6, fun g hg => ?_⟩
      rw [hSn t q, hFn t g q hg, th_upn (by omega), th_upn (by omega), o7 g hg]
      refine (hSn _ ?_).symm
      intro z
      by_cases z0 : F (2 * t + g) = 0
      · omega
      · exact hA _ (c3 t (by omega) at2 g hg z0) z
  · by_cases q1 : t = s
    · by_cases q2 : t' = s
      · rw [q1, q2]
      · have o := (d1 t' (at2.resolve_right q2)).2.2.2.2.1
        rw [q1, hSs, hSn t' q2] at q
        omega
    · have at3 := at'.resolve_right q1
      by_cases q2 : t' = s
      · have o := (d1 t at3).2.2.2.2.1
        rw [q2, hSs, hSn t q1] at q
        omega
      · rw [hSn t q1, hSn t' q2] at q
        exact d2 t t' at3 (at2.resolve_right q2) q
  · rw [hSn 0 (by omega)]; exact e1
  · rw [th_un (by omega)]; exact e2
  · by_cases q : j = 2 * (m + 1) + 1
    · rw [q, th_ups]; omega
    · rw [th_upn q]
      by_cases q2 : j = 2 * (m + 1)
      · rw [q2, th_ups]; omega
      · rw [th_upn q2]; have := e3 j; omega
  · by_cases q : t = s
    · rw [q, hSs]; omega
    · rw [hSn t q]; have := e4 t; omega
/-- no root names a slot that is not in use -/
theorem th_nR {k rm m p : Nat} {R G F S YF : Nat → Nat} {A : Nat → Prop} {xn tk yn : Nat → Int32} {s : Nat}
    (h : th_inv k rm m p R G F S YF A xn tk yn) (h1 : 1 ≤ s) (h0 : tk s = 0) : (∀ i, R i ≠ s) ∧ (∀ g, G g ≠ s) := by
  obtain ⟨_, ⟨_, _, _, b4, b5⟩, ⟨⟨c1, c2, _⟩, d1, _⟩, _⟩ := h
  have hA : ∀ t, A t → t ≠ s := fun t at' q => (d1 t at').2.2.1 (by rw [q]; exact h0)
  refine ⟨fun i => ?_, fun g => ?_⟩
  · by_cases q : i < 12
    · by_cases z : R i = 0
      · omega
      · exact hA _ (c1 i q z)
    · have := b4 i (by omega); omega
  · by_cases q : g < 2
    · by_cases z : G g = 0
      · omega
      · exact hA _ (c2 g q z)
    · have := b5 g (by omega); omega
/-- the reference's roots behind a new object -/
theorem th_newR {R S : Nat → Nat} {s c m : Nat} (h : ∀ i, R i ≠ s) :
    th_up (fun i => S (R i)) c (m + 1) = fun i => th_up S s (m + 1) (th_up R c s i) := by
  funext i
  by_cases q : i = c
  · rw [q, th_ups, th_ups, th_ups]
  · rw [th_upn q, th_upn q, th_upn (h i)]
theorem th_newG {G S : Nat → Nat} {s m : Nat} (h : ∀ i, G i ≠ s) :
    (fun i => S (G i)) = fun i => th_up S s (m + 1) (G i) := by
  funext i
  rw [th_upn (h i)]
/-- a slot that is not in use: not every slot is live -/
theorem th_room {k rm m p : Nat} {R G F S YF : Nat → Nat} {A : Nat → Prop} {xn tk yn mk : Nat → Int32} {s : Nat}
    (h : th_inv k rm m p R G F S YF A xn tk yn) (hm : th_lst R G F mk rm) (h1 : 1 ≤ s) (h2 : s ≤ rm) (h0 : tk s = 0) : th_cnt mk rm < rm := by
  obtain ⟨_, _, ⟨c, d1, _⟩, _⟩ := h
  refine th_cnt_lt h1 h2 ?_
  by_cases z : mk s = 0
  · exact z
  · exact absurd h0 (d1 s (hm.2 A c s h1 h2 z)).2.2.1
/-- there is a least closed set, as an array -/
theorem th_has (R G F : Nat → Nat) (n : Nat) (hR : ∀ i, R i ≤ n) (hG : ∀ i, G i ≤ n) (hF : ∀ i, F i ≤ n) : ∃ mk : Nat → Int32, th_lst R G F mk n := by
  have dec : ∀ s, ∃ v : Int32, v ≠ 0 ↔ ∀ P, th_cl R G F P → P s := by
    intro s
    by_cases z : ∀ P, th_cl R G F P → P s
    · exact ⟨1, fun _ => z, fun _ => by decide⟩
    · exact ⟨0, fun w => absurd rfl w, fun w => absurd w z⟩
  refine ⟨fun s => (dec s).choose, ⟨fun i hi q => ⟨hR i, ?_⟩, fun i hi q => ⟨hG i, ?_⟩, fun s hs q f hf w => ⟨hF _, ?_⟩⟩, fun P hP s _ _ q => ?_⟩
  · exact (dec _).choose_spec.mpr (fun P hP => hP.1 i hi q)
  · exact (dec _).choose_spec.mpr (fun P hP => hP.2.1 i hi q)
  · exact (dec _).choose_spec.mpr (fun P hP => hP.2.2 s hs ((dec s).choose_spec.mp q.2 P hP) f hf w)
  · exact (dec s).choose_spec.mp q P hP
end
section
/-! the class's marking and the reference's, as mathematics alone -/
/-- c slots are marked; rc lists them; each is in every closed set -/
def xm_ok (rm : Nat) (R G F : Nat → Nat) (mk rc : Nat → Int32) (c : Nat) : Prop :=
  c = th_cnt mk rm ∧ (∀ s, s < 17 → mk s ≠ 0 → 1 ≤ s ∧ s ≤ rm ∧ (∀ P, th_cl R G F P → P s) ∧ ∃ j, j < c ∧ rc j = nI s) ∧
  (∀ j, j < c → ∃ s, 1 ≤ s ∧ s ≤ rm ∧ rc j = nI s ∧ mk s ≠ 0)
/-- a later state of the marking -/
def xm_ext (mk rc : Nat → Int32) (c : Nat) (mk' rc' : Nat → Int32) (c' : Nat) : Prop :=
  c ≤ c' ∧ (∀ s, mk s ≠ 0 → mk' s ≠ 0) ∧ (∀ j, j < c → rc' j = rc j)
theorem xm_ext_r {mk rc : Nat → Int32} {c : Nat} : xm_ext mk rc c mk rc c := ⟨Nat.le_refl c, fun _ h => h, fun _ _ => rfl⟩
theorem xm_ext_t {mk rc mk1 rc1 mk2 rc2 : Nat → Int32} {c c1 c2 : Nat} (h : xm_ext mk rc c mk1 rc1 c1) (g : xm_ext mk1 rc1 c1 mk2 rc2 c2) : xm_ext mk rc c mk2 rc2 c2 :=
  ⟨Nat.le_trans h.1 g.1, fun s z => g.2.1 s (h.2.1 s z), fun j hj => by rw [g.2.2 j (Nat.lt_of_lt_of_le hj h.1)]; exact h.2.2 j hj⟩
theorem xm_c {rm : Nat} {R G F : Nat → Nat} {mk rc : Nat → Int32} {c : Nat} (h : xm_ok rm R G F mk rc c) : c ≤ rm := by
  rw [h.1]; exact th_cnt_le mk rm
theorem xm_start {rm : Nat} {R G F : Nat → Nat} {mk rc : Nat → Int32} (h16 : rm ≤ 16) (h : ∀ s, s < 17 → mk s = 0) : xm_ok rm R G F mk rc 0 := by
  refine ⟨(th_cnt_0 (fun s _ h2 => h s (by omega))).symm, fun s hs z => absurd (h s hs) z, fun j hj => ?_⟩
  omega
theorem xm_step {rm : Nat} {R G F : Nat → Nat} {mk rc : Nat → Int32} {c s : Nat} (h16 : rm ≤ 16) (h : xm_ok rm R G F mk rc c)
    (h1 : 1 ≤ s) (h2 : s ≤ rm) (hs : ∀ P, th_cl R G F P → P s) (h0 : mk s = 0) :
    xm_ok rm R G F (upd mk s 1) (upd rc c (nI s)) (c + 1) ∧ xm_ext mk rc c (upd mk s 1) (upd rc c (nI s)) (c + 1) := by
  obtain ⟨a, b, d⟩ := h
  refine ⟨⟨?_, fun t ht z => ?_, fun j hj => ?_⟩, Nat.le_succ c, fun t z => ?_, fun j hj => th_un (by omega)⟩
  · rw [th_cnt_in h1 h0 (by decide) h2, a]
  · by_cases q : t = s
    · rw [q]
      exact ⟨h1, h2, hs, c, by omega, th_us⟩
    · rw [th_un q] at z
      obtain ⟨b1, b2, b3, j, hj, e⟩ := b t ht z
      exact ⟨b1, b2, b3, j, by omega, by rw [th_un (by omega)]; exact e⟩
  · by_cases q : j = c
    · rw [q]
      exact ⟨s, h1, h2, th_us, by rw [th_us]; decide⟩
    · obtain ⟨t, t1, t2, t3, t4⟩ := d j (by omega)
      refine ⟨t, t1, t2, by rw [th_un q]; exact t3, ?_⟩
      by_cases w : t = s
      · rw [w, th_us]; decide
      · rw [th_un w]; exact t4
  · by_cases w : t = s
    · rw [w, th_us]; decide
    · rw [th_un w]; exact z
/-- all roots are marked, and all that the first n of the list name -/
def xm_rt (R G : Nat → Nat) (mk : Nat → Int32) : Prop := (∀ i, i < 12 → R i ≠ 0 → mk (R i) ≠ 0) ∧ (∀ g, g < 2 → G g ≠ 0 → mk (G g) ≠ 0)
def xm_done (rm : Nat) (F : Nat → Nat) (mk rc : Nat → Int32) (n : Nat) : Prop :=
  ∀ j, j < n → ∀ s, s ≤ rm → rc j = nI s → ∀ f, f < 2 → F (2 * s + f) ≠ 0 → mk (F (2 * s + f)) ≠ 0
theorem xm_rt_e {R G : Nat → Nat} {mk rc mk' rc' : Nat → Int32} {c c' : Nat} (h : xm_rt R G mk) (e : xm_ext mk rc c mk' rc' c') : xm_rt R G mk' :=
  ⟨fun i hi z => e.2.1 _ (h.1 i hi z), fun i hi z => e.2.1 _ (h.2 i hi z)⟩
theorem xm_done_e {rm : Nat} {F : Nat → Nat} {mk rc mk' rc' : Nat → Int32} {c c' n : Nat} (h : xm_done rm F mk rc n) (hn : n ≤ c) (e : xm_ext mk rc c mk' rc' c') : xm_done rm F mk' rc' n :=
  fun j hj s hs q f hf z => e.2.1 _ (h j hj s hs (by rw [← e.2.2 j (by omega)]; exact q) f hf z)
theorem xm_end {rm : Nat} {R G F : Nat → Nat} {mk rc : Nat → Int32} {c : Nat} (h16 : rm ≤ 16) (h : xm_ok rm R G F mk rc c) (hr : xm_rt R G mk)
    (hR : ∀ i, R i ≤ rm) (hG : ∀ i, G i ≤ rm) (hF : ∀ i, F i ≤ rm) (hd : xm_done rm F mk rc c) : th_lst R G F mk rm := by
  refine ⟨⟨fun i hi z => ⟨hR i, hr.1 i hi z⟩, fun i hi z => ⟨hG i, hr.2 i hi z⟩, fun s hs q f hf z => ⟨hF _, ?_⟩⟩, fun P hP s _ h2 z => (h.2.1 s (by omega) z).2.2.1 P hP⟩
  obtain ⟨_, _, _, j, hj, e⟩ := h.2.1 s (by omega) q.2
  exact hd j hj s q.1 e f hf z
/-- what every closed set holds: roots and fields of such -/
theorem xm_sR {R G F : Nat → Nat} {i : Nat} (hi : i < 12) (h : R i ≠ 0) : ∀ P, th_cl R G F P → P (R i) := fun _ hP => hP.1 i hi h
theorem xm_sG {R G F : Nat → Nat} {i : Nat} (hi : i < 2) (h : G i ≠ 0) : ∀ P, th_cl R G F P → P (G i) := fun _ hP => hP.2.1 i hi h
theorem xm_sF {R G F : Nat → Nat} {s f : Nat} (hs : s ≠ 0) (h : ∀ P, th_cl R G F P → P s) (hf : f < 2) (hz : F (2 * s + f) ≠ 0) : ∀ P, th_cl R G F P → P (F (2 * s + f)) :=
  fun P hP => hP.2.2 s hs (h P hP) f hf hz
/-- the reference's marks: sound -/
def ym_ok (m : Nat) (R G F : Nat → Nat) (a : Nat → Int32) : Prop := ∀ i, i ≤ m → a i ≠ 0 → i ≠ 0 → ∀ P, th_cl R G F P → P i
/-- the reference's marks: the roots are in -/
def ym_rt (R G : Nat → Nat) (a : Nat → Int32) : Prop := a 0 ≠ 0 ∧ (∀ i, i < 12 → a (R i) ≠ 0) ∧ (∀ g, g < 2 → a (G g) ≠ 0)
theorem ym_put {m : Nat} {R G F : Nat → Nat} {a : Nat → Int32} {x : Nat} (h : ym_ok m R G F a) (hx : x ≠ 0 → ∀ P, th_cl R G F P → P x) : ym_ok m R G F (upd a x 1) := by
  intro i hi z h0
  by_cases q : i = x
  · rw [q] at h0 ⊢; exact hx h0
  · rw [th_un q] at z; exact h i hi z h0
theorem ym_keep {a : Nat → Int32} {x s : Nat} (h : a s ≠ 0) : upd a x 1 s ≠ 0 := by
  by_cases q : s = x
  · rw [q, th_us]; decide
  · rw [th_un q]; exact h
theorem ym_self {a : Nat → Int32} {x : Nat} : upd a x 1 x ≠ 0 := by rw [th_us]; decide
theorem ym_rt_k {R G : Nat → Nat} {a : Nat → Int32} {x : Nat} (h : ym_rt R G a) : ym_rt R G (upd a x 1) :=
  ⟨ym_keep h.1, fun i hi => ym_keep (h.2.1 i hi), fun i hi => ym_keep (h.2.2 i hi)⟩
theorem ym_F {m : Nat} {R G F : Nat → Nat} {a : Nat → Int32} {i f : Nat} (h : ym_ok m R G F a) (h1 : 1 ≤ i) (h2 : i ≤ m) (ha : a i ≠ 0) (hf : f < 2) :
    F (2 * i + f) ≠ 0 → ∀ P, th_cl R G F P → P (F (2 * i + f)) :=
  fun hz P hP => hP.2.2 i (by omega) (h i h2 ha (by omega) P hP) f hf hz
theorem ym_put2 {m : Nat} {R G F : Nat → Nat} {a : Nat → Int32} {i : Nat} (h : ym_ok m R G F a) (h1 : 1 ≤ i) (h2 : i ≤ m) (ha : a i ≠ 0) :
    ym_ok m R G F (upd (upd a (F (2 * i)) 1) (F (2 * i + 1)) 1) :=
  ym_put (ym_put h (ym_F (f := 0) h h1 h2 ha (by omega))) (ym_F (f := 1) h h1 h2 ha (by omega))
theorem ym_cm {a : Nat → Int32} {x n : Nat} : th_cnt a n ≤ th_cnt (upd a x 1) n := th_cnt_mono (fun _ _ _ z => ym_keep z)
/-- marking a cell that was not marked counts one more -/
theorem ym_c1 {a : Nat → Int32} {x n : Nat} (h0 : a 0 ≠ 0) (hn : x ≤ n) (hx : a x = 0) : th_cnt (upd a x 1) n = th_cnt a n + 1 := by
  refine th_cnt_in ?_ hx (by decide) hn
  by_cases q : x = 0
  · rw [q] at hx; exact absurd hx h0
  · omega
theorem ym_c2 {a : Nat → Int32} {x y n : Nat} (h0 : a 0 ≠ 0) (hx : x ≤ n) (hy : y ≤ n) (h : a x = 0 ∨ a y = 0) : th_cnt a n < th_cnt (upd (upd a x 1) y 1) n := by
  rcases h with h | h
  · have e := ym_c1 h0 hx h
    have g : th_cnt (upd a x 1) n ≤ th_cnt (upd (upd a x 1) y 1) n := ym_cm
    omega
  · by_cases q : y = x
    · rw [q] at h
      have e := ym_c1 h0 hx h
      have g : th_cnt (upd a x 1) n ≤ th_cnt (upd (upd a x 1) y 1) n := ym_cm
      omega
    · have h' : upd a x 1 y = 0 := by rw [th_un q]; exact h
      have e := ym_c1 (a := upd a x 1) (ym_keep h0) hy h'
      have g : th_cnt a n ≤ th_cnt (upd a x 1) n := ym_cm
      omega
/-- the fields of the cells 1 .. n - 1 are in -/
def ym_cl (F : Nat → Nat) (a : Nat → Int32) (n : Nat) : Prop := ∀ i, 1 ≤ i → i < n → a i ≠ 0 → a (F (2 * i)) ≠ 0 ∧ a (F (2 * i + 1)) ≠ 0
theorem ym_end {m : Nat} {R G F : Nat → Nat} {a : Nat → Int32} (h : ym_ok m R G F a) (hr : ym_rt R G a) (hc : ym_cl F a (m + 1))
    (hR : ∀ i, R i ≤ m) (hG : ∀ i, G i ≤ m) (hF : ∀ i, F i ≤ m) : th_lst R G F a m := by
  refine ⟨⟨fun i hi _ => ⟨hR i, hr.2.1 i hi⟩, fun i hi _ => ⟨hG i, hr.2.2 i hi⟩, fun s hs q f hf _ => ⟨hF _, ?_⟩⟩, fun P hP s h1 h2 z => h s h2 z (by omega) P hP⟩
  have w := hc s (by omega) (by have := q.1; omega) q.2
  have : f = 0 ∨ f = 1 := by omega
  rcases this with rfl | rfl
  · exact w.1
  · exact w.2
end
section
/-! the sweep, as mathematics alone -/
def sw_cov (rm p j s : Nat) : Prop := (p < s ∧ s ≤ p + j) ∨ s + rm ≤ p + j
/-- j steps of a sweep from p: it stands at q; tk0 has become tk -/
def sw_ok (rm p : Nat) (mk tk0 : Nat → Int32) (j q : Nat) (tk : Nat → Int32) : Prop :=
  q ≤ rm ∧ (∀ s, tk s = tk0 s ∨ (tk s = 0 ∧ mk s = 0)) ∧
  (j ≤ rm → ((p + j ≤ rm ∧ q = p + j) ∨ (rm < p + j ∧ q + rm = p + j)) ∧ ∀ s, 1 ≤ s → s ≤ rm → sw_cov rm p j s → mk s ≠ 0 ∨ tk s = 0)
theorem sw_0 {rm p : Nat} {mk tk : Nat → Int32} (hp : p ≤ rm) : sw_ok rm p mk tk 0 p tk := by
  refine ⟨hp, fun _ => Or.inl rfl, fun _ => ⟨Or.inl ⟨hp, rfl⟩, fun s h1 h2 c => ?_⟩⟩
  unfold sw_cov at c
  omega
theorem sw_step {rm p : Nat} {mk tk0 tk tk' : Nat → Int32} {j q q' : Nat} (hp : p ≤ rm) (h4 : 4 ≤ rm) (h : sw_ok rm p mk tk0 j q tk)
    (hq : (q < rm ∧ q' = q + 1) ∨ (rm ≤ q ∧ q' = 1)) (ht : (mk q' = 0 ∧ tk' = upd tk q' 0) ∨ (mk q' ≠ 0 ∧ tk' = tk)) : sw_ok rm p mk tk0 (j + 1) q' tk' := by
  obtain ⟨a, b, c⟩ := h
  refine ⟨by omega, fun s => ?_, fun hj => ?_⟩
  · rcases ht with ⟨m, e⟩ | ⟨m, e⟩
    · by_cases z : s = q'
      · rw [e, z, th_us]; exact Or.inr ⟨rfl, m⟩
      · rw [e, th_un z]; exact b s
    · rw [e]; exact b s
  · obtain ⟨d, g⟩ := c (by omega)
    refine ⟨by omega, fun s h1 h2 w => ?_⟩
    by_cases z : s = q'
    · rw [z]
      rcases ht with ⟨m, e⟩ | ⟨m, e⟩
      · rw [e, th_us]; exact Or.inr rfl
      · exact Or.inl m
    · have w' : sw_cov rm p j s := by
        unfold sw_cov at w ⊢
        omega
      rcases ht with ⟨m, e⟩ | ⟨m, e⟩
      · rw [e, th_un z]; exact g s h1 h2 w'
      · rw [e]; exact g s h1 h2 w'
theorem sw_all {rm p : Nat} {mk tk0 tk : Nat → Int32} {q : Nat} (h : sw_ok rm p mk tk0 rm q tk) : ∀ s, 1 ≤ s → s ≤ rm → mk s ≠ 0 ∨ tk s = 0 := by
  intro s h1 h2
  refine (h.2.2 (Nat.le_refl rm)).2 s h1 h2 ?_
  unfold sw_cov
  omega
theorem sw_keep {rm p : Nat} {mk tk0 tk : Nat → Int32} {j q : Nat} (h : sw_ok rm p mk tk0 j q tk) : ∀ s, 1 ≤ s → s ≤ rm → mk s ≠ 0 → tk s = tk0 s := by
  intro s _ _ z
  rcases h.2.1 s with e | ⟨_, e⟩
  · exact e
  · exact absurd e z
end
section
/-! states, small numbers, the small methods -/
abbrev th_X (c : Int32) (rm m p : Nat) (R G F S : Nat → Nat) (xn tk mk rc : Nat → Int32) : SX :=
  (c, nI rm, nI m, nI p, (fun i => nI (R i)), (fun i => nI (G i)), xn, (fun i => nI (S i)), (fun i => nI (F i)), tk, mk, rc)
abbrev th_Y (rm m : Nat) (R G F : Nat → Nat) (yn yr : Nat → Int32) : SY :=
  (nI m, nI rm, (fun i => nI (F i)), yn, yr, (fun i => nI (R i)), (fun i => nI (G i)))
theorem th_updS {R S : Nat → Nat} {c x : Nat} : upd (fun i => nI (S (R i))) c (nI (S x)) = fun i => nI (S (th_up R c x i)) := by
  funext j
  by_cases e : j = c
  · rw [e, th_us, th_ups]
  · rw [th_un e, th_upn e]
theorem th_b1 : vp_nar .boolean 1 = 1 := by decide
theorem th_b0 : vp_nar .boolean 0 = 0 := by decide
theorem th_c4 (t r : Nat) : nI t * 4 + nI r = nI (4 * t + r) := by
  rw [show (4 : Int32) = nI 4 from rfl, pk_mul, nI_add, Nat.mul_comm]
theorem th_c4' (t r : Nat) : 4 * nI t + nI r = nI (4 * t + r) := by
  rw [show (4 : Int32) = nI 4 from rfl, pk_mul, nI_add]
theorem th_c2 (t r : Nat) : nI t * 2 + nI r = nI (2 * t + r) := by
  rw [show (2 : Int32) = nI 2 from rfl, pk_mul, nI_add, Nat.mul_comm]
theorem th_c2' (t r : Nat) : 2 * nI t + nI r = nI (2 * t + r) := by
  rw [show (2 : Int32) = nI 2 from rfl, pk_mul, nI_add]
theorem th_d2 (t : Nat) : nI t * 2 = nI (2 * t) := by
  rw [show (2 : Int32) = nI 2 from rfl, pk_mul, Nat.mul_comm]
theorem th_d2' (t : Nat) : 2 * nI t = nI (2 * t) := by
  rw [show (2 : Int32) = nI 2 from rfl, pk_mul]
theorem th_of {x : Int32} {n : Nat} (hn : n < 2 ^ 31) (a : ¬ x < 0) (b : ¬ nI n ≤ x) : ∃ j, j < n ∧ x = nI j := by
  rcases pk_ix x hn with h | h | h
  · exact absurd h a
  · exact absurd h b
  · exact h
theorem th_of' {x : Int32} {n : Nat} (hn : n < 2 ^ 30) (a : ¬ x < 0) (b : ¬ nI n < x) : ∃ j, j < n + 1 ∧ x = nI j := by
  obtain ⟨j, hj, rfl⟩ := nI_of a
  refine ⟨j, ?_, rfl⟩
  rw [nI_ltI (by omega) hj] at b
  omega
/-- a thread and a register; a field or a global -/
def th_reg (t r : Int32) : Prop := ∃ t' r' : Nat, t' < 3 ∧ r' < 4 ∧ t = nI t' ∧ r = nI r'
def th_bit (f : Int32) : Prop := ∃ f' : Nat, f' < 2 ∧ f = nI f'
theorem xw_reg_t {post : Int32 → Prop} {t r : Nat} (ht : t < 3) (hr : r < 4) (h : post 1) : wpX_isRegister post (nI t) (nI r) := by
  unfold wpX_isRegister wpX_isThread
  exact br_f (nI_pos (by omega)) (br_f (nI_ge (b := 3) ht (by decide)) (br_f (by decide) (br_f (nI_pos (by omega)) (br_f (nI_ge (b := 4) hr (by decide)) h))))
theorem xw_reg_f {post : Int32 → Prop} {t r : Int32} (hn : ¬ th_reg t r) (h : post 0) : wpX_isRegister post t r := by
  unfold wpX_isRegister wpX_isThread
  refine br_c (fun _ => br_t rfl h) (fun a => br_c (fun _ => br_t rfl h) (fun b => br_f (by decide) (br_c (fun _ => h) (fun c => br_c (fun _ => h) (fun d => absurd ?_ hn)))))
  obtain ⟨t', h1, e1⟩ := th_of (n := 3) (by decide) a b
  obtain ⟨r', h2, e2⟩ := th_of (n := 4) (by decide) c d
  exact ⟨t', r', h1, h2, e1, e2⟩
theorem xw_fld_t {post : Int32 → Prop} {f : Nat} (hf : f < 2) (h : post 1) : wpX_isField post (nI f) := by
  unfold wpX_isField
  exact br_f (nI_pos (by omega)) (br_f (nI_ge (b := 2) hf (by decide)) h)
theorem xw_fld_f {post : Int32 → Prop} {f : Int32} (hn : ¬ th_bit f) (h : post 0) : wpX_isField post f := by
  unfold wpX_isField
  exact br_c (fun _ => h) (fun a => br_c (fun _ => h) (fun b => absurd (th_of (n := 2) (by decide) a b) hn))
theorem xw_glb_t {post : Int32 → Prop} {f : Nat} (hf : f < 2) (h : post 1) : wpX_isGlobal post (nI f) := by
  unfold wpX_isGlobal
  exact br_f (nI_pos (by omega)) (br_f (nI_ge (b := 2) hf (by decide)) h)
theorem xw_glb_f {post : Int32 → Prop} {f : Int32} (hn : ¬ th_bit f) (h : post 0) : wpX_isGlobal post f := by
  unfold wpX_isGlobal
  exact br_c (fun _ => h) (fun a => br_c (fun _ => h) (fun b => absurd (th_of (n := 2) (by decide) a b) hn))
theorem xw_cell {post : Int32 → Prop} {t r : Nat} (h : post (nI (4 * t + r))) : wpX_registerCell post (nI t) (nI r) := by
  unfold wpX_registerCell
  rw [th_c4]
  exact h
theorem xw_fcell {post : Int32 → Prop} {s f : Nat} (h : post (nI (2 * s + f))) : wpX_fieldCell post (nI s) (nI f) := by
  unfold wpX_fieldCell
  rw [th_c2]
  exact h
theorem yw_reg_t {post : Int32 → Prop} {v : SY} {t r : Nat} (ht : t < 3) (hr : r < 4) (h : post 1) : wpY_isRegister post v (nI t) (nI r) := by
  obtain ⟨_, _, _, _, _, _, _⟩ := v
  unfold wpY_isRegister
  exact br_f (nI_pos (by omega)) (br_f (nI_nlt (a := 2) (by omega) (by decide)) (br_f (nI_pos (by omega)) (br_f (nI_nlt (a := 3) (by omega) (by decide)) h)))
theorem yw_reg_f {post : Int32 → Prop} {v : SY} {t r : Int32} (hn : ¬ th_reg t r) (h : post 0) : wpY_isRegister post v t r := by
  obtain ⟨_, _, _, _, _, _, _⟩ := v
  unfold wpY_isRegister
  refine br_c (fun _ => h) (fun a => br_c (fun _ => h) (fun b => br_c (fun _ => h) (fun c => br_c (fun _ => h) (fun d => absurd ?_ hn))))
  obtain ⟨t', h1, e1⟩ := th_of' (n := 2) (by decide) a b
  obtain ⟨r', h2, e2⟩ := th_of' (n := 3) (by decide) c d
  exact ⟨t', r', h1, h2, e1, e2⟩
theorem yw_bit_t {post : Int32 → Prop} {v : SY} {f : Nat} (hf : f < 2) (h : post 1) : wpY_isBit post v (nI f) := by
  obtain ⟨_, _, _, _, _, _, _⟩ := v
  unfold wpY_isBit
  have : f = 0 ∨ f = 1 := by omega
  rcases this with rfl | rfl
  · exact br_t rfl h
  · exact br_f (by decide) (br_t rfl h)
theorem yw_bit_f {post : Int32 → Prop} {v : SY} {f : Int32} (hn : ¬ th_bit f) (h : post 0) : wpY_isBit post v f := by
  obtain ⟨_, _, _, _, _, _, _⟩ := v
  unfold wpY_isBit
  exact br_f (fun e => hn ⟨0, by omega, e⟩) (br_f (fun e => hn ⟨1, by omega, e⟩) h)
end
section
/-! the class's marking and sweep, walked -/
section
variable {rm m p : Nat} {R G F S : Nat → Nat} {xn tk : Nat → Int32}
theorem xw_reach {post : SX → Prop} {mk rc : Nat → Int32} {c s : Nat} (h16 : rm ≤ 16) (h : xm_ok rm R G F mk rc c) (hs : s ≤ rm)
    (hP : s ≠ 0 → ∀ P, th_cl R G F P → P s)
    (K : ∀ mk' rc' c', xm_ok rm R G F mk' rc' c' → xm_ext mk rc c mk' rc' c' → (s ≠ 0 → mk' s ≠ 0) → post (th_X (nI c') rm m p R G F S xn tk mk' rc')) :
    wpX_reach post (th_X (nI c) rm m p R G F S xn tk mk rc) (nI s) := by
  have hc := xm_c h
  unfold wpX_reach
  dsimp only
  by_cases z : s = 0
  · subst z
    exact br_t rfl (K _ _ _ h xm_ext_r (fun w => absurd rfl w))
  · refine br_f (nI_ne0 (by omega) (by omega)) ⟨vp_in_nI (by omega) (by omega), ?_⟩
    rw [nI_clamp (n := s) (by omega), nI_clamp (n := c) (by omega), th_b1]
    by_cases q : mk s = 0
    · have w := xm_step h16 h (by omega) hs (hP z) q
      refine br_t q ⟨vp_in_nI (by omega) (by omega), nm_e ⟨vp_in_nI (by omega) (by omega), nm_e (nm_r (nI_1 c) ?_)⟩⟩
      exact K _ _ _ w.1 w.2 (fun _ => by rw [th_us]; decide)
    · exact br_f q (K _ _ _ h xm_ext_r (fun _ => q))
theorem xw_E {post : SX → Prop} {J : Int32 → Int32 → Int32 → Int32 → Int32 → (Nat → Int32) → (Nat → Int32) → (Nat → Int32) → (Nat → Int32) → (Nat → Int32) → (Nat → Int32) → (Nat → Int32) → (Nat → Int32) → Prop} {mk0 rc0 : Nat → Int32} {c0 s j : Nat} (h16 : rm ≤ 16) (hF : ∀ i, F i ≤ rm)
    (s1 : 1 ≤ s) (s2 : s ≤ rm) (hP : ∀ P, th_cl R G F P → P s)
    (K : ∀ mk rc c, xm_ok rm R G F mk rc c → xm_ext mk0 rc0 c0 mk rc c → (∀ f, f < 2 → F (2 * s + f) ≠ 0 → mk (F (2 * s + f)) ≠ 0) →
      J (nI (j + 1)) (nI c) (nI rm) (nI m) (nI p) (fun i => nI (R i)) (fun i => nI (G i)) xn (fun i => nI (S i)) (fun i => nI (F i)) tk mk rc) :
    ∀ (d f : Nat) (mk rc : Nat → Int32) (c : Nat), f + d = 2 → xm_ok rm R G F mk rc c → xm_ext mk0 rc0 c0 mk rc c →
    (∀ g, g < f → F (2 * s + g) ≠ 0 → mk (F (2 * s + g)) ≠ 0) → wX_markLive_100 post J (nI j) (nI (2 * s)) (d + 1) (nI f) (nI c) (nI rm) (nI m) (nI p) (fun i => nI (R i)) (fun i => nI (G i)) xn (fun i => nI (S i)) (fun i => nI (F i)) tk mk rc := by
  intro d
  induction d with
  | zero =>
    intro f mk rc c e ok ex fs
    have e2 : f = 2 := by omega
    subst e2
    exact br_t (nI_le (a := 2) (by omega) (by decide)) (nm_r (nI_1 j) (K mk rc c ok ex fs))
  | succ d ih =>
    intro f mk rc c e ok ex fs
    rw [wX_markLive_100]
    dsimp only
    refine br_f (nI_ge (b := 2) (by omega) (by decide)) ?_
    rw [nI_add, nI_clamp (n := 2 * s + f) (by omega)]
    refine ⟨vp_in_nI (by omega) (by decide), ?_⟩
    refine xw_reach h16 ok (hF _) (fun z => xm_sF (by omega) hP (by omega) z) (fun mk' rc' c' ok' ex' g' => ?_)
    refine nm_r (nI_1 f) (ih (f + 1) mk' rc' c' (by omega) ok' (xm_ext_t ex ex') (fun g hg z => ?_))
    by_cases w : g = f
    · rw [w] at z ⊢; exact g' z
    · exact ex'.2.1 _ (fs g (by omega) z)
theorem xw_D {post : SX → Prop} (h16 : rm ≤ 16) (hF : ∀ i, F i ≤ rm)
    (K : ∀ mk rc c, xm_ok rm R G F mk rc c → xm_rt R G mk → xm_done rm F mk rc c → post (th_X (nI c) rm m p R G F S xn tk mk rc)) :
    ∀ (d j : Nat) (mk rc : Nat → Int32) (c : Nat), j + d = 17 → j ≤ c → xm_ok rm R G F mk rc c → xm_rt R G mk → xm_done rm F mk rc j →
    wX_markLive_75 post (d + 1) (nI j) (nI c) (nI rm) (nI m) (nI p) (fun i => nI (R i)) (fun i => nI (G i)) xn (fun i => nI (S i)) (fun i => nI (F i)) tk mk rc := by
  intro d
  induction d with
  | zero =>
    intro j mk rc c e hj ok
    have := xm_c ok
    omega
  | succ d ih =>
    intro j mk rc c e hj ok rt dn
    have hc := xm_c ok
    rw [wX_markLive_75]
    dsimp only
    refine br_f (nI_ge (b := 17) (by omega) (by decide)) ?_
    by_cases q : c ≤ j
    · have e1 : j = c := by omega
      subst e1
      exact br_t (nI_le (Nat.le_refl _) (by omega)) (K mk rc j ok rt dn)
    · refine br_f (nI_ge (by omega) (by omega)) ⟨vp_in_nI (by omega) (by omega), ?_⟩
      rw [nI_clamp (n := j) (by omega)]
      obtain ⟨s, s1, s2, s3, s4⟩ := ok.2.2 j (by omega)
      rw [s3]
      refine nm_r (th_d2 s) ⟨3, xw_E h16 hF s1 s2 (ok.2.1 s (by omega) s4).2.2.1 (fun mk' rc' c' ok' ex fs => ?_) 2 0 mk rc c rfl ok xm_ext_r (fun g hg => absurd hg (Nat.not_lt_zero g))⟩
      refine ih (j + 1) mk' rc' c' (by omega) (by have := ex.1; omega) ok' (xm_rt_e rt ex) ?_
      intro i hi t ht et f hf z
      by_cases w : i = j
      · have et' : nI s = nI t := by rw [← s3, ← ex.2.2 j (by omega), ← w]; exact et
        have : s = t := (nI_eq (by omega) (by omega)).mp et'
        subst this
        exact fs f hf z
      · exact xm_done_e dn hj ex i (by omega) t ht et f hf z
theorem xw_C {post : SX → Prop} (h16 : rm ≤ 16) (hF : ∀ i, F i ≤ rm) (hG : ∀ i, G i ≤ rm)
    (K : ∀ mk rc c, xm_ok rm R G F mk rc c → xm_rt R G mk → xm_done rm F mk rc c → post (th_X (nI c) rm m p R G F S xn tk mk rc)) :
    ∀ (d j : Nat) (mk rc : Nat → Int32) (c : Nat), j + d = 2 → xm_ok rm R G F mk rc c → (∀ i, i < 12 → R i ≠ 0 → mk (R i) ≠ 0) →
    (∀ i, i < j → G i ≠ 0 → mk (G i) ≠ 0) → wX_markLive_52 post (d + 1) (nI j) (nI c) (nI rm) (nI m) (nI p) (fun i => nI (R i)) (fun i => nI (G i)) xn (fun i => nI (S i)) (fun i => nI (F i)) tk mk rc := by
  intro d
  induction d with
  | zero =>
    intro j mk rc c e ok r1 r2
    have e2 : j = 2 := by omega
    subst e2
    exact br_t (nI_le (a := 2) (by omega) (by decide)) ⟨18, xw_D h16 hF K 17 0 mk rc c rfl (Nat.zero_le c) ok ⟨r1, r2⟩ (fun j hj => absurd hj (Nat.not_lt_zero j))⟩
  | succ d ih =>
    intro j mk rc c e ok r1 r2
    rw [wX_markLive_52]
    dsimp only
    refine br_f (nI_ge (b := 2) (by omega) (by decide)) ⟨vp_in_nI (by omega) (by decide), ?_⟩
    rw [nI_clamp (n := j) (by omega)]
    refine xw_reach h16 ok (hG j) (fun z => xm_sG (by omega) z) (fun mk' rc' c' ok' ex g => ?_)
    refine nm_r (nI_1 j) (ih (j + 1) mk' rc' c' (by omega) ok' (fun i hi z => ex.2.1 _ (r1 i hi z)) (fun i hi z => ?_))
    by_cases w : i = j
    · rw [w] at z ⊢; exact g z
    · exact ex.2.1 _ (r2 i (by omega) z)
theorem xw_B {post : SX → Prop} (h16 : rm ≤ 16) (hF : ∀ i, F i ≤ rm) (hG : ∀ i, G i ≤ rm) (hR : ∀ i, R i ≤ rm)
    (K : ∀ mk rc c, xm_ok rm R G F mk rc c → xm_rt R G mk → xm_done rm F mk rc c → post (th_X (nI c) rm m p R G F S xn tk mk rc)) :
    ∀ (d j : Nat) (mk rc : Nat → Int32) (c : Nat), j + d = 12 → xm_ok rm R G F mk rc c → (∀ i, i < j → R i ≠ 0 → mk (R i) ≠ 0) →
    wX_markLive_28 post (d + 1) (nI j) (nI c) (nI rm) (nI m) (nI p) (fun i => nI (R i)) (fun i => nI (G i)) xn (fun i => nI (S i)) (fun i => nI (F i)) tk mk rc := by
  intro d
  induction d with
  | zero =>
    intro j mk rc c e ok r1
    have e2 : j = 12 := by omega
    subst e2
    exact br_t (nI_le (a := 12) (by omega) (by decide)) ⟨3, xw_C h16 hF hG K 2 0 mk rc c rfl ok r1 (fun j hj => absurd hj (Nat.not_lt_zero j))⟩
  | succ d ih =>
    intro j mk rc c e ok r1
    rw [wX_markLive_28]
    dsimp only
    refine br_f (nI_ge (b := 12) (by omega) (by decide)) ⟨vp_in_nI (by omega) (by decide), ?_⟩
    rw [nI_clamp (n := j) (by omega)]
    refine xw_reach h16 ok (hR j) (fun z => xm_sR (by omega) z) (fun mk' rc' c' ok' ex g => ?_)
    refine nm_r (nI_1 j) (ih (j + 1) mk' rc' c' (by omega) ok' (fun i hi z => ?_))
    by_cases w : i = j
    · rw [w] at z ⊢; exact g z
    · exact ex.2.1 _ (r1 i (by omega) z)
theorem xw_A {post : SX → Prop} {c : Int32} (h16 : rm ≤ 16) (hF : ∀ i, F i ≤ rm) (hG : ∀ i, G i ≤ rm) (hR : ∀ i, R i ≤ rm) {rc : Nat → Int32}
    (K : ∀ mk rc c, xm_ok rm R G F mk rc c → xm_rt R G mk → xm_done rm F mk rc c → post (th_X (nI c) rm m p R G F S xn tk mk rc)) :
    ∀ (d j : Nat) (mk : Nat → Int32), j + d = 17 → (∀ s, s < j → mk s = 0) →
    wX_markLive_2 post c (nI rm) (nI m) (nI p) (d + 1) (nI j) (fun i => nI (R i)) (fun i => nI (G i)) xn (fun i => nI (S i)) (fun i => nI (F i)) tk mk rc := by
  intro d
  induction d with
  | zero =>
    intro j mk e z
    have e2 : j = 17 := by omega
    subst e2
    exact br_t (nI_le (a := 17) (by omega) (by decide)) ⟨13, xw_B h16 hF hG hR K 12 0 mk rc 0 rfl (xm_start h16 z) (fun j hj => absurd hj (Nat.not_lt_zero j))⟩
  | succ d ih =>
    intro j mk e z
    rw [wX_markLive_2]
    dsimp only
    rw [nI_clamp (n := j) (by omega), th_b0]
    refine br_f (nI_ge (b := 17) (by omega) (by decide)) ⟨vp_in_nI (by omega) (by decide), nm_e (nm_r (nI_1 j) ?_)⟩
    refine ih (j + 1) (upd mk j 0) (by omega) (fun s hs => ?_)
    by_cases w : s = j
    · rw [w, th_us]
    · rw [th_un w]; exact z s (by omega)
/-- behind markLive the marks are the least closed set, and reachedCount counts them -/
theorem xw_mark {post : SX → Prop} {c : Int32} {mk rc : Nat → Int32} (h16 : rm ≤ 16) (hF : ∀ i, F i ≤ rm) (hG : ∀ i, G i ≤ rm) (hR : ∀ i, R i ≤ rm)
    (K : ∀ mk' rc', th_lst R G F mk' rm → post (th_X (nI (th_cnt mk' rm)) rm m p R G F S xn tk mk' rc')) :
    wpX_markLive post (th_X c rm m p R G F S xn tk mk rc) := by
  unfold wpX_markLive
  dsimp only
  refine ⟨18, xw_A h16 hF hG hR (fun mk' rc' c' ok rt dn => ?_) 17 0 mk rfl (fun s hs => absurd hs (Nat.not_lt_zero s))⟩
  rw [ok.1]
  exact K mk' rc' (xm_end h16 ok rt hR hG hF dn)
end
section
variable {rm m : Nat} {R G F S : Nat → Nat} {xn mk rc : Nat → Int32} {c : Int32}
theorem xw_SW {post : SX → Prop} {p st : Nat} {tk : Nat → Int32} (h4 : 4 ≤ rm) (h16 : rm ≤ 16) (hp : p ≤ rm) (hst : st < 100)
    (K : ∀ q tk', sw_ok rm p mk tk st q tk' → post (th_X c rm m q R G F S xn tk' mk rc)) :
    ∀ (d j q : Nat) (tk' : Nat → Int32), j + d = st → sw_ok rm p mk tk j q tk' →
    wX_sweep_2 post (nI st) c (nI rm) (nI m) (d + 1) (nI j) (nI q) (fun i => nI (R i)) (fun i => nI (G i)) xn (fun i => nI (S i)) (fun i => nI (F i)) tk' mk rc := by
  intro d
  induction d with
  | zero =>
    intro j q tk' e ok
    have e2 : j = st := by omega
    subst e2
    exact br_t (nI_le (Nat.le_refl _) (by omega)) (K q tk' ok)
  | succ d ih =>
    intro j q tk' e ok
    have hq := ok.1
    have key : ∀ q' : Nat, ((q < rm ∧ q' = q + 1) ∨ (rm ≤ q ∧ q' = 1)) →
        wX_sweep_29 post (wX_sweep_2 post (nI st) c (nI rm) (nI m) (d + 1)) (nI st) (nI j) (nI q') c (nI rm) (nI m) (nI q) (fun i => nI (R i)) (fun i => nI (G i)) xn (fun i => nI (S i)) (fun i => nI (F i)) tk' mk rc := by
      intro q' hq'
      unfold wX_sweep_29
      refine ⟨vp_in_nI (by omega) (by decide), ?_⟩
      rw [nI_clamp (n := q') (by omega), th_b0]
      by_cases z : mk q' = 0
      · exact br_t z ⟨vp_in_nI (by omega) (by decide), nm_e (nm_r (nI_1 j) (ih (j + 1) q' _ (by omega) (sw_step hp h4 ok hq' (Or.inl ⟨z, rfl⟩))))⟩
      · exact br_f z (nm_r (nI_1 j) (ih (j + 1) q' _ (by omega) (sw_step hp h4 ok hq' (Or.inr ⟨z, rfl⟩))))
    rw [wX_sweep_2]
    dsimp only
    refine br_f (nI_ge (by omega) (by omega)) ?_
    by_cases z : q < rm
    · refine br_f (nI_ge z (by omega)) ?_
      rw [nI_1 q]
      exact key (q + 1) (Or.inl ⟨z, rfl⟩)
    · exact br_t (nI_le (by omega) (by omega)) (key 1 (Or.inr ⟨by omega, rfl⟩))
theorem xw_sweep {post : SX → Prop} {p st : Nat} {tk : Nat → Int32} (h4 : 4 ≤ rm) (h16 : rm ≤ 16) (hp : p ≤ rm) (hst : st < 100)
    (K : ∀ q tk', sw_ok rm p mk tk st q tk' → post (th_X c rm m q R G F S xn tk' mk rc)) :
    wpX_sweep post (th_X c rm m p R G F S xn tk mk rc) (nI st) := by
  unfold wpX_sweep
  dsimp only
  exact ⟨st + 1, xw_SW h4 h16 hp hst K st 0 p tk (by omega) (sw_0 hp)⟩
/-- the first slot that is not in use, or 0 -/
theorem xw_FS {post : Int32 → Prop} {p : Nat} {tk : Nat → Int32} (h16 : rm ≤ 16)
    (K : ∀ s, (1 ≤ s ∧ s ≤ rm ∧ tk s = 0) ∨ (s = 0 ∧ ∀ t, 1 ≤ t → t ≤ rm → tk t ≠ 0) → post (nI s)) :
    ∀ (d j : Nat), 1 ≤ j → j + d = rm + 1 → (∀ t, 1 ≤ t → t < j → tk t ≠ 0) →
    wX_freeSlot_2 post c (nI rm) (nI m) (nI p) (fun i => nI (R i)) (fun i => nI (G i)) xn (fun i => nI (S i)) (fun i => nI (F i)) tk mk rc (d + 1) (nI j) := by
  intro d
  induction d with
  | zero =>
    intro j h1 e z
    exact br_t (nI_lt (by omega) (by omega)) (K 0 (Or.inr ⟨rfl, fun t t1 t2 => z t t1 (by omega)⟩))
  | succ d ih =>
    intro j h1 e z
    rw [wX_freeSlot_2]
    dsimp only
    refine br_f (nI_nlt (by omega) (by omega)) ⟨vp_in_nI (by omega) (by omega), ?_⟩
    rw [nI_clamp (n := j) (by omega)]
    by_cases q : tk j = 0
    · exact br_t q (K j (Or.inl ⟨h1, by omega, q⟩))
    · refine br_f q (nm_r (nI_1 j) (ih (j + 1) (by omega) (by omega) (fun t t1 t2 => ?_)))
      by_cases w : t = j
      · rw [w]; exact q
      · exact z t t1 (by omega)
theorem xw_free {post : Int32 → Prop} {p : Nat} {tk : Nat → Int32} (h16 : rm ≤ 16)
    (K : ∀ s, (1 ≤ s ∧ s ≤ rm ∧ tk s = 0) ∨ (s = 0 ∧ ∀ t, 1 ≤ t → t ≤ rm → tk t ≠ 0) → post (nI s)) :
    wpX_freeSlot post (th_X c rm m p R G F S xn tk mk rc) := by
  unfold wpX_freeSlot
  dsimp only
  exact ⟨rm + 1, xw_FS h16 K rm 1 (by omega) (by omega) (fun t t1 t2 => by omega)⟩
end
/-- findRoom: a slot that is not in use, or 0 and every slot live -/
theorem xw_room {post : Int32 → SX → Prop} {k rm m p : Nat} {R G F S YF : Nat → Nat} {A : Nat → Prop} {xn tk yn mk rc : Nat → Int32} {c : Int32}
    (h : th_inv k rm m p R G F S YF A xn tk yn)
    (K : ∀ (s p' : Nat) (A' : Nat → Prop) (tk' mk' rc' : Nat → Int32) (c' : Int32), th_inv k rm m p' R G F S YF A' xn tk' yn →
      (1 ≤ s ∧ s ≤ rm ∧ tk' s = 0) ∨ (s = 0 ∧ ∃ mk, th_lst R G F mk rm ∧ th_cnt mk rm = rm) → post (nI s) (th_X c' rm m p' R G F S xn tk' mk' rc')) :
    wpX_findRoom post (th_X c rm m p R G F S xn tk mk rc) := by
  have h' := h
  obtain ⟨⟨h4, h16, _, hp⟩, ⟨hR, hG, hF, _, _⟩, _, _⟩ := h'
  unfold wpX_findRoom
  dsimp only
  refine xw_free h16 (fun s hs => ?_)
  rcases hs with hs | ⟨rfl, hs⟩
  · refine br_f (nI_ne0 (by omega) (by omega)) ?_
    exact K s p A tk mk rc c h (Or.inl hs)
  · refine br_t rfl ?_
    refine xw_mark h16 hF hG hR (fun mk' rc' ls => ?_)
    refine xw_sweep h4 h16 hp (by omega) (fun q tk' ok => ?_)
    have h2 := th_swp h ls ok.1 (sw_keep ok)
    refine xw_free h16 (fun s hs => ?_)
    rcases hs with hs | ⟨rfl, hs⟩
    · exact K s q _ tk' mk' rc' _ h2 (Or.inl hs)
    · refine K 0 q _ tk' mk' rc' _ h2 (Or.inr ⟨rfl, mk', ls, th_cnt_full (fun s s1 s2 => ?_)⟩)
      exact (sw_all ok s s1 s2).resolve_right (hs s s1 s2)
end
section
/-! the reference's marking and count, walked -/
section
variable {rm m : Nat} {R G F : Nat → Nat} {yn : Nat → Int32}
theorem yw_RB {post : SY → Prop} (hm : m ≤ 511) (hR : ∀ i, R i ≤ m) (hG : ∀ i, G i ≤ m)
    (K : ∀ a, ym_ok m R G F a → (∀ i, i < 12 → a (R i) ≠ 0) → (∀ i, i < 2 → a (G i) ≠ 0) → post (th_Y rm m R G F yn a)) :
    ∀ (d j : Nat) (a : Nat → Int32), j + d = 12 → ym_ok m R G F a → (∀ i, i < j → a (R i) ≠ 0) →
    wY_reachRoots_25 post (nI m) (nI rm) (d + 1) (nI j) (fun i => nI (F i)) yn a (fun i => nI (R i)) (fun i => nI (G i)) := by
  intro d
  induction d with
  | zero =>
    intro j a e ok r
    rw [wY_reachRoots_25]
    dsimp only
    have e2 : j = 12 := by omega
    subst e2
    have g0 := hG 0
    have g1 := hG 1
    refine br_t (nI_le (a := 12) (by omega) (by decide)) ?_
    rw [nI_clamp (n := G 0) (by omega), nI_clamp (n := G 1) (by omega), th_b1]
    refine ⟨vp_in_nI (n := G 0) (by omega) (by decide), nm_e ⟨vp_in_nI (n := G 1) (by omega) (by decide), nm_e ?_⟩⟩
    refine K _ (ym_put (ym_put ok (fun z => xm_sG (by omega) z)) (fun z => xm_sG (by omega) z)) (fun i hi => ym_keep (ym_keep (r i hi))) (fun i hi => ?_)
    have : i = 0 ∨ i = 1 := by omega
    rcases this with rfl | rfl
    · exact ym_keep ym_self
    · exact ym_self
  | succ d ih =>
    intro j a e ok r
    rw [wY_reachRoots_25]
    dsimp only
    have g0 := hR j
    refine br_f (nI_ge (b := 12) (by omega) (by decide)) ⟨vp_in_nI (by omega) (by decide), ?_⟩
    rw [nI_clamp (n := j) (by omega), nI_clamp (n := R j) (by omega), th_b1]
    refine ⟨vp_in_nI (n := R j) (by omega) (by decide), nm_e (nm_r (nI_1 j) ?_)⟩
    refine ih (j + 1) _ (by omega) (ym_put ok (fun z => xm_sR (by omega) z)) (fun i hi => ?_)
    by_cases w : i = j
    · rw [w]; exact ym_self
    · exact ym_keep (r i (by omega))
theorem yw_RA {post : SY → Prop} (hm : m ≤ 511) (hR : ∀ i, R i ≤ m) (hG : ∀ i, G i ≤ m)
    (K : ∀ a, ym_ok m R G F a → (∀ i, i < 12 → a (R i) ≠ 0) → (∀ i, i < 2 → a (G i) ≠ 0) → post (th_Y rm m R G F yn a)) :
    ∀ (d j : Nat) (a : Nat → Int32), j + d = m + 1 → (∀ i, i < j → a i = 0) →
    wY_reachRoots_2 post (nI m) (nI rm) (d + 1) (nI j) (fun i => nI (F i)) yn a (fun i => nI (R i)) (fun i => nI (G i)) := by
  intro d
  induction d with
  | zero =>
    intro j a e z
    rw [wY_reachRoots_2]
    dsimp only
    refine br_t (nI_lt (by omega) (by omega)) ⟨13, yw_RB hm hR hG K 12 0 a rfl (fun i hi w => absurd (z i (by omega)) w) (fun i hi => absurd hi (Nat.not_lt_zero i))⟩
  | succ d ih =>
    intro j a e z
    rw [wY_reachRoots_2]
    dsimp only
    rw [nI_clamp (n := j) (by omega), th_b0]
    refine br_f (nI_nlt (by omega) (by omega)) ⟨vp_in_nI (by omega) (by decide), nm_e (nm_r (nI_1 j) ?_)⟩
    refine ih (j + 1) _ (by omega) (fun i hi => ?_)
    by_cases w : i = j
    · rw [w, th_us]
    · rw [th_un w]; exact z i (by omega)
theorem yw_roots {post : SY → Prop} {a : Nat → Int32} (hm : m ≤ 511) (hR : ∀ i, R i ≤ m) (hG : ∀ i, G i ≤ m)
    (K : ∀ a, ym_ok m R G F a → (∀ i, i < 12 → a (R i) ≠ 0) → (∀ i, i < 2 → a (G i) ≠ 0) → post (th_Y rm m R G F yn a)) :
    wpY_reachRoots post (th_Y rm m R G F yn a) := by
  unfold wpY_reachRoots
  dsimp only
  exact ⟨m + 2, yw_RA hm hR hG K (m + 1) 0 a (by omega) (fun i hi => absurd hi (Nat.not_lt_zero i))⟩
/-- the state of one round over the fields: nothing new so far, or more marks than at its start -/
def yw_I (m : Nat) (R G F : Nat → Nat) (a0 : Nat → Int32) (j : Nat) (b : Int32) (a : Nat → Int32) : Prop :=
  ym_ok m R G F a ∧ ym_rt R G a ∧ ((b = 0 ∧ a = a0 ∧ ym_cl F a j) ∨ (b = 1 ∧ th_cnt a0 m < th_cnt a m))
theorem yw_I_skip {a0 a : Nat → Int32} {j : Nat} {b : Int32} (h : yw_I m R G F a0 j b a) (hc : a j ≠ 0 → a (F (2 * j)) ≠ 0 ∧ a (F (2 * j + 1)) ≠ 0) : yw_I m R G F a0 (j + 1) b a := by
  refine ⟨h.1, h.2.1, ?_⟩
  rcases h.2.2 with ⟨h1, h2, h3⟩ | h1
  · refine Or.inl ⟨h1, h2, fun i i1 i2 z => ?_⟩
    by_cases w : i = j
    · rw [w] at z ⊢; exact hc z
    · exact h3 i i1 (by omega) z
  · exact Or.inr h1
theorem yw_I_put {a0 a : Nat → Int32} {j : Nat} {b : Int32} (hF : ∀ i, F i ≤ m) (h1 : 1 ≤ j) (h2 : j ≤ m) (h : yw_I m R G F a0 j b a) (ha : a j ≠ 0) (hz : a (F (2 * j)) = 0 ∨ a (F (2 * j + 1)) = 0) :
    yw_I m R G F a0 (j + 1) 1 (upd (upd a (F (2 * j)) 1) (F (2 * j + 1)) 1) := by
  refine ⟨ym_put2 h.1 h1 h2 ha, ym_rt_k (ym_rt_k h.2.1), Or.inr ⟨rfl, ?_⟩⟩
  have w := ym_c2 h.2.1.1 (hF _) (hF _) hz
  rcases h.2.2 with ⟨_, e, _⟩ | ⟨_, e⟩
  · rw [e] at w ⊢; exact w
  · omega
theorem yw_FA {post : Int32 → SY → Prop} {a0 : Nat → Int32} (hm : m ≤ 511) (hF : ∀ i, F i ≤ m)
    (K : ∀ b a, yw_I m R G F a0 (m + 1) b a → post b (th_Y rm m R G F yn a)) :
    ∀ (d j : Nat) (b : Int32) (a : Nat → Int32), 1 ≤ j → j + d = m + 1 → yw_I m R G F a0 j b a →
    wY_reachFields_4 post (nI m) (nI rm) (d + 1) b (nI j) (fun i => nI (F i)) yn a (fun i => nI (R i)) (fun i => nI (G i)) := by
  intro d
  induction d with
  | zero =>
    intro j b a h1 e h
    rw [wY_reachFields_4]
    dsimp only
    have e2 : j = m + 1 := by omega
    subst e2
    have hb : narrow .boolean (.int b) = .int b := by
      rcases h.2.2 with ⟨e, _⟩ | ⟨e, _⟩ <;> rw [e] <;> rfl
    exact br_t (nI_lt (by omega) (by omega)) ⟨hb, K b a h⟩
  | succ d ih =>
    intro j b a h1 e h
    rw [wY_reachFields_4]
    dsimp only
    have f0 := hF (2 * j)
    have f1 := hF (2 * j + 1)
    have put : a j ≠ 0 → (a (F (2 * j)) = 0 ∨ a (F (2 * j + 1)) = 0) →
        wY_reachFields_61 post (wY_reachFields_4 post (nI m) (nI rm) (d + 1)) (nI j) (nI (F (2 * j))) (nI (F (2 * j + 1))) (nI m) (nI rm) (fun i => nI (F i)) yn a (fun i => nI (R i)) (fun i => nI (G i)) := by
      intro ha hz
      unfold wY_reachFields_61
      rw [nI_clamp (n := F (2 * j)) (by omega), nI_clamp (n := F (2 * j + 1)) (by omega), th_b1]
      exact ⟨vp_in_nI (by omega) (by decide), nm_e ⟨vp_in_nI (by omega) (by decide), nm_e (nm_r (nI_1 j) (ih (j + 1) 1 _ (by omega) (by omega) (yw_I_put hF h1 (by omega) h ha hz)))⟩⟩
    have skip : (a j ≠ 0 → a (F (2 * j)) ≠ 0 ∧ a (F (2 * j + 1)) ≠ 0) → wY_reachFields_4 post (nI m) (nI rm) (d + 1) b (nI (j + 1)) (fun i => nI (F i)) yn a (fun i => nI (R i)) (fun i => nI (G i)) :=
      fun hc => ih (j + 1) b a (by omega) (by omega) (yw_I_skip h hc)
    refine br_f (nI_nlt (by omega) (by omega)) ?_
    rw [th_d2', nI_1 (2 * j), nI_clamp (n := 2 * j) (by omega), nI_clamp (n := 2 * j + 1) (by omega)]
    refine ⟨vp_in_nI (by omega) (by decide), nm_e ⟨vp_in_nI (by omega) (by decide), nm_e ⟨vp_in_nI (by omega) (by decide), ?_⟩⟩⟩
    rw [nI_clamp (n := j) (by omega), nI_clamp (n := F (2 * j)) (by omega), nI_clamp (n := F (2 * j + 1)) (by omega)]
    by_cases z : a j = 0
    · exact br_t z (nm_r (nI_1 j) (skip (fun w => absurd z w)))
    · refine br_f z ⟨vp_in_nI (by omega) (by decide), ?_⟩
      by_cases z1 : a (F (2 * j)) = 0
      · exact br_t z1 (put z (Or.inl z1))
      · refine br_f z1 ⟨vp_in_nI (by omega) (by decide), ?_⟩
        by_cases z2 : a (F (2 * j + 1)) = 0
        · exact br_t z2 (put z (Or.inr z2))
        · exact br_f z2 (nm_r (nI_1 j) (skip (fun _ => ⟨z1, z2⟩)))
theorem yw_fields {post : Int32 → SY → Prop} {a : Nat → Int32} (hm : m ≤ 511) (hF : ∀ i, F i ≤ m) (ok : ym_ok m R G F a) (rt : ym_rt R G a)
    (K : ∀ b a', yw_I m R G F a (m + 1) b a' → post b (th_Y rm m R G F yn a')) : wpY_reachFields post (th_Y rm m R G F yn a) := by
  unfold wpY_reachFields
  dsimp only
  exact ⟨m + 1, yw_FA hm hF K m 1 0 a (by omega) (by omega) ⟨ok, rt, Or.inl ⟨rfl, rfl, fun i i1 i2 => by omega⟩⟩⟩
theorem yw_LB {post : Int32 → SY → Prop} {a : Nat → Int32} (hm : m ≤ 511)
    (K : post (nI (th_cnt a m)) (th_Y rm m R G F yn a)) :
    ∀ (d j : Nat), 1 ≤ j → j + d = m + 1 → wY_live_41 post (nI m) (nI rm) (fun i => nI (F i)) yn a (fun i => nI (R i)) (fun i => nI (G i)) (d + 1) (nI (th_cnt a (j - 1))) (nI j) := by
  intro d
  induction d with
  | zero =>
    intro j h1 e
    rw [wY_live_41]
    dsimp only
    have e2 : j = m + 1 := by omega
    subst e2
    exact br_t (nI_lt (by omega) (by omega)) K
  | succ d ih =>
    intro j h1 e
    rw [wY_live_41]
    dsimp only
    obtain ⟨i, rfl⟩ : ∃ i, j = i + 1 := ⟨j - 1, by omega⟩
    have hi := ih (i + 1 + 1) (by omega) (by omega)
    refine br_f (nI_nlt (by omega) (by omega)) ⟨vp_in_nI (by omega) (by decide), ?_⟩
    rw [nI_clamp (n := i + 1) (by omega)]
    by_cases z : a (i + 1) = 0
    · refine br_t z (nm_r (nI_1 (i + 1)) ?_)
      have e3 : th_cnt a (i + 1 + 1 - 1) = th_cnt a (i + 1 - 1) := by
        show th_cnt a i + (if a (i + 1) = 0 then 0 else 1) = th_cnt a i
        rw [if_pos z, Nat.add_zero]
      rw [e3] at hi
      exact hi
    · have e3 : th_cnt a (i + 1 + 1 - 1) = th_cnt a (i + 1 - 1) + 1 := by
        show th_cnt a i + (if a (i + 1) = 0 then 0 else 1) = th_cnt a i + 1
        rw [if_neg z]
      rw [e3] at hi
      exact br_f z (nm_r (nI_1 _) (nm_r (nI_1 (i + 1)) hi))
theorem yw_LA {post : Int32 → SY → Prop} (hm : m ≤ 511) (hR : ∀ i, R i ≤ m) (hG : ∀ i, G i ≤ m) (hF : ∀ i, F i ≤ m)
    (K : ∀ a, th_lst R G F a m → post (nI (th_cnt a m)) (th_Y rm m R G F yn a)) :
    ∀ (d j : Nat) (b : Int32) (a : Nat → Int32), j + d = 512 → ym_ok m R G F a → ym_rt R G a → ((b = 0 ∧ ym_cl F a (m + 1)) ∨ (b = 1 ∧ j ≤ th_cnt a m)) →
    wY_live_15 post (d + 1) b (nI j) (nI m) (nI rm) (fun i => nI (F i)) yn a (fun i => nI (R i)) (fun i => nI (G i)) := by
  have out : ∀ a, ym_ok m R G F a → ym_rt R G a → ym_cl F a (m + 1) → ∃ n, wY_live_41 post (nI m) (nI rm) (fun i => nI (F i)) yn a (fun i => nI (R i)) (fun i => nI (G i)) n 0 1 :=
    fun a ok rt cl => ⟨m + 1, yw_LB hm (K a (ym_end ok rt cl hR hG hF)) m 1 (by omega) (by omega)⟩
  intro d
  induction d with
  | zero =>
    intro j b a e ok rt h
    rw [wY_live_15]
    dsimp only
    have e2 : j = 512 := by omega
    subst e2
    refine br_t (nI_le (a := 512) (by omega) (by decide)) ?_
    rcases h with ⟨_, cl⟩ | ⟨_, w⟩
    · exact out a ok rt cl
    · have := th_cnt_le a m
      omega
  | succ d ih =>
    intro j b a e ok rt h
    rw [wY_live_15]
    dsimp only
    refine br_f (nI_ge (b := 512) (by omega) (by decide)) ?_
    rcases h with ⟨rfl, cl⟩ | ⟨rfl, w⟩
    · exact br_t rfl (out a ok rt cl)
    · refine br_f (by decide) (yw_fields hm hF ok rt (fun b a' h => ?_))
      refine nm_r (nI_1 j) ?_
      refine ih (j + 1) b a' (by omega) h.1 h.2.1 ?_
      rcases h.2.2 with ⟨h1, h2, h3⟩ | ⟨h1, h2⟩
      · exact Or.inl ⟨h1, h3⟩
      · exact Or.inr ⟨h1, by omega⟩
/-- the reference's live answers the count of the least closed set -/
theorem yw_live {post : Int32 → SY → Prop} {a : Nat → Int32} (hm : m ≤ 511) (hR : ∀ i, R i ≤ m) (hG : ∀ i, G i ≤ m) (hF : ∀ i, F i ≤ m)
    (K : ∀ a, th_lst R G F a m → post (nI (th_cnt a m)) (th_Y rm m R G F yn a)) : wpY_live post (th_Y rm m R G F yn a) := by
  unfold wpY_live
  dsimp only
  refine yw_roots hm hR hG (fun a ok r1 r2 => ?_)
  dsimp only
  rw [th_b1]
  refine nm_e ?_
  exact ⟨513, yw_LA hm hR hG hF K 512 0 1 _ (by omega) (ym_put ok (fun z => absurd rfl z)) ⟨ym_self, fun i hi => ym_keep (r1 i hi), fun i hi => ym_keep (r2 i hi)⟩ (Or.inr ⟨rfl, Nat.zero_le _⟩)⟩
end
end
section
/-! the calls -/
theorem xw_reg_c {post : Int32 → Prop} {t r : Int32} (a : th_reg t r → post 1) (b : ¬ th_reg t r → post 0) : wpX_isRegister post t r := by
  by_cases h : th_reg t r
  · have := a h
    obtain ⟨t', r', ht, hr, rfl, rfl⟩ := h
    exact xw_reg_t ht hr this
  · exact xw_reg_f h (b h)
theorem xw_fld_c {post : Int32 → Prop} {f : Int32} (a : th_bit f → post 1) (b : ¬ th_bit f → post 0) : wpX_isField post f := by
  by_cases h : th_bit f
  · have := a h
    obtain ⟨f', hf, rfl⟩ := h
    exact xw_fld_t hf this
  · exact xw_fld_f h (b h)
theorem xw_glb_c {post : Int32 → Prop} {f : Int32} (a : th_bit f → post 1) (b : ¬ th_bit f → post 0) : wpX_isGlobal post f := by
  by_cases h : th_bit f
  · have := a h
    obtain ⟨f', hf, rfl⟩ := h
    exact xw_glb_t hf this
  · exact xw_glb_f h (b h)
theorem yw_reg_c {post : Int32 → Prop} {v : SY} {t r : Int32} (a : th_reg t r → post 1) (b : ¬ th_reg t r → post 0) : wpY_isRegister post v t r := by
  by_cases h : th_reg t r
  · have := a h
    obtain ⟨t', r', ht, hr, rfl, rfl⟩ := h
    exact yw_reg_t ht hr this
  · exact yw_reg_f h (b h)
theorem yw_bit_c {post : Int32 → Prop} {v : SY} {f : Int32} (a : th_bit f → post 1) (b : ¬ th_bit f → post 0) : wpY_isBit post v f := by
  by_cases h : th_bit f
  · have := a h
    obtain ⟨f', hf, rfl⟩ := h
    exact yw_bit_t hf this
  · exact yw_bit_f h (b h)
theorem th_reg2 {t r s : Int32} (h1 : th_reg t r) (h2 : th_reg t s) : ∃ t' r' s' : Nat, t' < 3 ∧ r' < 4 ∧ s' < 4 ∧ t = nI t' ∧ r = nI r' ∧ s = nI s' := by
  obtain ⟨t', r', a, b, c, d⟩ := h1
  obtain ⟨_, s', _, e, _, g⟩ := h2
  exact ⟨t', r', s', a, b, e, c, d, g⟩
theorem th_Rok {k rm m p : Nat} {R G F S YF : Nat → Nat} {A : Nat → Prop} {xn tk yn : Nat → Int32} {i : Nat}
    (h : th_inv k rm m p R G F S YF A xn tk yn) (hi : i < 12) : R i ≤ rm ∧ rm ≤ 16 ∧ (R i ≠ 0 → A (R i)) := ⟨h.2.1.1 i, h.1.2.1, h.2.2.1.1.1 i hi⟩
theorem th_Gok {k rm m p : Nat} {R G F S YF : Nat → Nat} {A : Nat → Prop} {xn tk yn : Nat → Int32} {i : Nat}
    (h : th_inv k rm m p R G F S YF A xn tk yn) (hi : i < 2) : G i ≤ rm ∧ rm ≤ 16 ∧ (G i ≠ 0 → A (G i)) := ⟨h.2.1.2.1 i, h.1.2.1, h.2.2.1.1.2.1 i hi⟩
theorem th_Fok {k rm m p : Nat} {R G F S YF : Nat → Nat} {A : Nat → Prop} {xn tk yn : Nat → Int32} {s f : Nat}
    (h : th_inv k rm m p R G F S YF A xn tk yn) (hs : A s) (hf : f < 2) : F (2 * s + f) ≤ rm ∧ rm ≤ 16 ∧ (F (2 * s + f) ≠ 0 → A (F (2 * s + f))) ∧ YF (2 * S s + f) = S (F (2 * s + f)) :=
  ⟨h.2.1.2.2.1 _, h.1.2.1, h.2.2.1.1.2.2 s (by have := (h.2.2.1.2.1 s hs).1; omega) hs f hf, (h.2.2.1.2.1 s hs).2.2.2.2.2.2 f hf⟩
theorem th_m {k rm m p : Nat} {R G F S YF : Nat → Nat} {A : Nat → Prop} {xn tk yn : Nat → Int32}
    (h : th_inv k rm m p R G F S YF A xn tk yn) (hk : k + 5 ≤ 2561) : m ≤ 511 := by have := h.1.2.2.1; omega
theorem th_Sm {k rm m p : Nat} {R G F S YF : Nat → Nat} {A : Nat → Prop} {xn tk yn : Nat → Int32}
    (h : th_inv k rm m p R G F S YF A xn tk yn) (s : Nat) : S s ≤ m := h.2.2.2.2.2.2 s
theorem th_S0 {k rm m p : Nat} {R G F S YF : Nat → Nat} {A : Nat → Prop} {xn tk yn : Nat → Int32} {i : Nat}
    (h : th_inv k rm m p R G F S YF A xn tk yn) (hi : i < 12) : S (R i) = 0 ↔ R i = 0 := by
  refine ⟨fun z => ?_, fun z => by rw [z]; exact h.2.2.2.1⟩
  by_cases w : R i = 0
  · exact w
  · have := (h.2.2.1.2.1 _ ((th_Rok h hi).2.2 w)).2.2.2.1
    omega
theorem th_init {rm : Nat} (h4 : 4 ≤ rm) (h16 : rm ≤ 16) :
    th_inv 1 rm 0 0 (fun _ => 0) (fun _ => 0) (fun _ => 0) (fun _ => 0) (fun _ => 0) (fun _ => False) (fun _ => 0) (fun _ => 0) (fun _ => 0) := by
  refine ⟨⟨h4, h16, by omega, by omega⟩, ⟨fun _ => Nat.zero_le _, fun _ => Nat.zero_le _, fun _ => Nat.zero_le _, fun _ _ => rfl, fun _ _ => rfl⟩, ⟨⟨fun _ _ z => absurd rfl z, fun _ _ z => absurd rfl z, fun _ _ z => z.elim⟩, fun _ z => z.elim, fun _ _ z => z.elim⟩, rfl, rfl, fun _ => Nat.zero_le _, fun _ => Nat.zero_le _⟩
/-! the refusals: a thread, register, field or global that is not one -/
theorem xb_copy {post : Int32 → SX → Prop} {u : SX} {a b c : Int32} (h : ¬ (th_reg a b ∧ th_reg a c)) (k : post (-1) u) : wpX_copy post u a b c := by
  obtain ⟨_, _, _, _, _, _, _, _, _, _, _, _⟩ := u
  unfold wpX_copy
  refine xw_reg_c (fun h1 => br_f (by decide) (xw_reg_c (fun h2 => absurd ⟨h1, h2⟩ h) (fun _ => br_t rfl k))) (fun _ => br_t rfl k)
theorem yb_copy {post : Int32 → SY → Prop} {u : SY} {a b c : Int32} (h : ¬ (th_reg a b ∧ th_reg a c)) (k : post (-1) u) : wpY_copy post u a b c := by
  obtain ⟨_, _, _, _, _, _, _⟩ := u
  unfold wpY_copy
  refine yw_reg_c (fun h1 => br_f (by decide) (yw_reg_c (fun h2 => absurd ⟨h1, h2⟩ h) (fun _ => br_t rfl k))) (fun _ => br_t rfl k)
theorem xb_load {post : Int32 → SX → Prop} {u : SX} {a b c d : Int32} (h : ¬ (th_reg a b ∧ th_reg a c ∧ th_bit d)) (k : post (-1) u) : wpX_load post u a b c d := by
  obtain ⟨_, _, _, _, _, _, _, _, _, _, _, _⟩ := u
  unfold wpX_load
  refine xw_reg_c (fun h1 => br_f (by decide) (xw_reg_c (fun h2 => br_f (by decide) (xw_fld_c (fun h3 => absurd ⟨h1, h2, h3⟩ h) (fun _ => br_t rfl k))) (fun _ => br_t rfl k))) (fun _ => br_t rfl k)
theorem yb_load {post : Int32 → SY → Prop} {u : SY} {a b c d : Int32} (h : ¬ (th_reg a b ∧ th_reg a c ∧ th_bit d)) (k : post (-1) u) : wpY_load post u a b c d := by
  obtain ⟨_, _, _, _, _, _, _⟩ := u
  unfold wpY_load
  refine yw_reg_c (fun h1 => br_f (by decide) (yw_reg_c (fun h2 => br_f (by decide) (yw_bit_c (fun h3 => absurd ⟨h1, h2, h3⟩ h) (fun _ => br_t rfl k))) (fun _ => br_t rfl k))) (fun _ => br_t rfl k)
theorem xb_store {post : Int32 → SX → Prop} {u : SX} {a b c d : Int32} (h : ¬ (th_reg a b ∧ th_bit c ∧ th_reg a d)) (k : post (-1) u) : wpX_store post u a b c d := by
  obtain ⟨_, _, _, _, _, _, _, _, _, _, _, _⟩ := u
  unfold wpX_store
  refine xw_reg_c (fun h1 => br_f (by decide) (xw_fld_c (fun h2 => br_f (by decide) (xw_reg_c (fun h3 => absurd ⟨h1, h2, h3⟩ h) (fun _ => br_t rfl k))) (fun _ => br_t rfl k))) (fun _ => br_t rfl k)
theorem yb_store {post : Int32 → SY → Prop} {u : SY} {a b c d : Int32} (h : ¬ (th_reg a b ∧ th_bit c ∧ th_reg a d)) (k : post (-1) u) : wpY_store post u a b c d := by
  obtain ⟨_, _, _, _, _, _, _⟩ := u
  unfold wpY_store
  refine yw_reg_c (fun h1 => br_f (by decide) (yw_reg_c (fun h2 => br_f (by decide) (yw_bit_c (fun h3 => absurd ⟨h2, h3, h1⟩ h) (fun _ => br_t rfl k))) (fun _ => br_t rfl k))) (fun _ => br_t rfl k)
theorem xb_put {post : Int32 → SX → Prop} {u : SX} {a b c : Int32} (h : ¬ (th_reg a c ∧ th_bit b)) (k : post (-1) u) : wpX_put post u a b c := by
  obtain ⟨_, _, _, _, _, _, _, _, _, _, _, _⟩ := u
  unfold wpX_put
  refine xw_reg_c (fun h1 => br_f (by decide) (xw_glb_c (fun h2 => absurd ⟨h1, h2⟩ h) (fun _ => br_t rfl k))) (fun _ => br_t rfl k)
theorem yb_put {post : Int32 → SY → Prop} {u : SY} {a b c : Int32} (h : ¬ (th_reg a c ∧ th_bit b)) (k : post (-1) u) : wpY_put post u a b c := by
  obtain ⟨_, _, _, _, _, _, _⟩ := u
  unfold wpY_put
  refine yw_reg_c (fun h1 => br_f (by decide) (yw_bit_c (fun h2 => absurd ⟨h1, h2⟩ h) (fun _ => br_t rfl k))) (fun _ => br_t rfl k)
theorem xb_get {post : Int32 → SX → Prop} {u : SX} {a b c : Int32} (h : ¬ (th_reg a b ∧ th_bit c)) (k : post (-1) u) : wpX_get post u a b c := by
  obtain ⟨_, _, _, _, _, _, _, _, _, _, _, _⟩ := u
  unfold wpX_get
  refine xw_reg_c (fun h1 => br_f (by decide) (xw_glb_c (fun h2 => absurd ⟨h1, h2⟩ h) (fun _ => br_t rfl k))) (fun _ => br_t rfl k)
theorem yb_get {post : Int32 → SY → Prop} {u : SY} {a b c : Int32} (h : ¬ (th_reg a b ∧ th_bit c)) (k : post (-1) u) : wpY_get post u a b c := by
  obtain ⟨_, _, _, _, _, _, _⟩ := u
  unfold wpY_get
  refine yw_reg_c (fun h1 => br_f (by decide) (yw_bit_c (fun h2 => absurd ⟨h1, h2⟩ h) (fun _ => br_t rfl k))) (fun _ => br_t rfl k)
theorem xb_swap {post : Int32 → SX → Prop} {u : SX} {a b c d : Int32} (h : ¬ (th_reg a b ∧ th_reg c d)) (k : post (-1) u) : wpX_swap post u a b c d := by
  obtain ⟨_, _, _, _, _, _, _, _, _, _, _, _⟩ := u
  unfold wpX_swap
  refine xw_reg_c (fun h1 => br_f (by decide) (xw_reg_c (fun h2 => absurd ⟨h1, h2⟩ h) (fun _ => br_t rfl k))) (fun _ => br_t rfl k)
theorem yb_swap {post : Int32 → SY → Prop} {u : SY} {a b c d : Int32} (h : ¬ (th_reg a b ∧ th_reg c d)) (k : post (-1) u) : wpY_swap post u a b c d := by
  obtain ⟨_, _, _, _, _, _, _⟩ := u
  unfold wpY_swap
  refine yw_reg_c (fun h1 => br_f (by decide) (yw_reg_c (fun h2 => absurd ⟨h1, h2⟩ h) (fun _ => br_t rfl k))) (fun _ => br_t rfl k)
theorem xb_serialIn {post : Int32 → Prop} {u : SX} {a b c : Int32} (h : ¬ (th_reg a b ∧ th_bit c)) (k : post (-1)) : wpX_serialIn post u a b c := by
  obtain ⟨_, _, _, _, _, _, _, _, _, _, _, _⟩ := u
  unfold wpX_serialIn
  refine xw_reg_c (fun h1 => br_f (by decide) (xw_fld_c (fun h2 => absurd ⟨h1, h2⟩ h) (fun _ => br_t rfl k))) (fun _ => br_t rfl k)
theorem yb_serialIn {post : Int32 → Prop} {u : SY} {a b c : Int32} (h : ¬ (th_reg a b ∧ th_bit c)) (k : post (-1)) : wpY_serialIn post u a b c := by
  obtain ⟨_, _, _, _, _, _, _⟩ := u
  unfold wpY_serialIn
  refine yw_reg_c (fun h1 => br_f (by decide) (yw_bit_c (fun h2 => absurd ⟨h1, h2⟩ h) (fun _ => br_t rfl k))) (fun _ => br_t rfl k)
theorem xb_make {post : Int32 → SX → Prop} {u : SX} {a b c : Int32} (h : ¬ th_reg a b) (k : post (-1) u) : wpX_make post u a b c := by
  obtain ⟨_, _, _, _, _, _, _, _, _, _, _, _⟩ := u
  unfold wpX_make
  exact xw_reg_f h (br_t rfl k)
theorem yb_make {post : Int32 → SY → Prop} {u : SY} {a b c : Int32} (h : ¬ th_reg a b) (k : post (-1) u) : wpY_make post u a b c := by
  obtain ⟨_, _, _, _, _, _, _⟩ := u
  unfold wpY_make
  exact yw_reg_f h (br_t rfl k)
theorem xb_drop {post : Int32 → SX → Prop} {u : SX} {a b : Int32} (h : ¬ th_reg a b) (k : post (-1) u) : wpX_drop post u a b := by
  obtain ⟨_, _, _, _, _, _, _, _, _, _, _, _⟩ := u
  unfold wpX_drop
  exact xw_reg_f h (br_t rfl k)
theorem yb_drop {post : Int32 → SY → Prop} {u : SY} {a b : Int32} (h : ¬ th_reg a b) (k : post (-1) u) : wpY_drop post u a b := by
  obtain ⟨_, _, _, _, _, _, _⟩ := u
  unfold wpY_drop
  exact yw_reg_f h (br_t rfl k)
theorem xb_setNumber {post : Int32 → SX → Prop} {u : SX} {a b c : Int32} (h : ¬ th_reg a b) (k : post (-1) u) : wpX_setNumber post u a b c := by
  obtain ⟨_, _, _, _, _, _, _, _, _, _, _, _⟩ := u
  unfold wpX_setNumber
  exact xw_reg_f h (br_t rfl k)
theorem yb_setNumber {post : Int32 → SY → Prop} {u : SY} {a b c : Int32} (h : ¬ th_reg a b) (k : post (-1) u) : wpY_setNumber post u a b c := by
  obtain ⟨_, _, _, _, _, _, _⟩ := u
  unfold wpY_setNumber
  exact yw_reg_f h (br_t rfl k)
theorem xb_number {post : Int32 → Prop} {u : SX} {a b : Int32} (h : ¬ th_reg a b) (k : post 0) : wpX_number post u a b := by
  obtain ⟨_, _, _, _, _, _, _, _, _, _, _, _⟩ := u
  unfold wpX_number
  exact xw_reg_f h (br_t rfl k)
theorem yb_number {post : Int32 → Prop} {u : SY} {a b : Int32} (h : ¬ th_reg a b) (k : post 0) : wpY_number post u a b := by
  obtain ⟨_, _, _, _, _, _, _⟩ := u
  unfold wpY_number
  exact yw_reg_f h (br_t rfl k)
theorem xb_serial {post : Int32 → Prop} {u : SX} {a b : Int32} (h : ¬ th_reg a b) (k : post (-1)) : wpX_serial post u a b := by
  obtain ⟨_, _, _, _, _, _, _, _, _, _, _, _⟩ := u
  unfold wpX_serial
  exact xw_reg_f h (br_t rfl k)
theorem yb_serial {post : Int32 → Prop} {u : SY} {a b : Int32} (h : ¬ th_reg a b) (k : post (-1)) : wpY_serial post u a b := by
  obtain ⟨_, _, _, _, _, _, _⟩ := u
  unfold wpY_serial
  exact yw_reg_f h (br_t rfl k)
theorem xb_serialOf {post : Int32 → Prop} {u : SX} {a : Int32} (h : ¬ th_bit a) (k : post (-1)) : wpX_serialOf post u a := by
  obtain ⟨_, _, _, _, _, _, _, _, _, _, _, _⟩ := u
  unfold wpX_serialOf
  exact xw_glb_f h (br_t rfl k)
theorem yb_serialOf {post : Int32 → Prop} {u : SY} {a : Int32} (h : ¬ th_bit a) (k : post (-1)) : wpY_serialOf post u a := by
  obtain ⟨_, _, _, _, _, _, _⟩ := u
  unfold wpY_serialOf
  exact yw_bit_f h (br_t rfl k)
end
section
/-! the calls that are done, walked on each side alone -/
theorem xg_copy {post : Int32 → SX → Prop} {c : Int32} {rm m p : Nat} {R G F S : Nat → Nat} {xn tk mk rc : Nat → Int32} {t r s : Nat} (ht : t < 3) (hr : r < 4) (hs : s < 4) (K : post 0 (th_X c rm m p (th_up R (4 * t + r) (R (4 * t + s))) G F S xn tk mk rc)) :
    wpX_copy post (th_X c rm m p R G F S xn tk mk rc) (nI t) (nI r) (nI s) := by
  unfold wpX_copy
  dsimp only
  refine xw_reg_t ht hr (br_f (by decide) (xw_reg_t ht hs (br_f (by decide) (xw_cell (xw_cell ?_)))))
  rw [nI_clamp (n := 4 * t + r) (by omega), nI_clamp (n := 4 * t + s) (by omega)]
  exact ⟨vp_in_nI (by omega) (by decide), vp_in_nI (by omega) (by decide), nm_r th_upd K⟩
theorem yg_copy {post : Int32 → SY → Prop} {rm m : Nat} {R G F : Nat → Nat} {yn yr : Nat → Int32} {t r s : Nat} (ht : t < 3) (hr : r < 4) (hs : s < 4) (K : post 0 (th_Y rm m (th_up R (4 * t + r) (R (4 * t + s))) G F yn yr)) :
    wpY_copy post (th_Y rm m R G F yn yr) (nI t) (nI r) (nI s) := by
  unfold wpY_copy
  dsimp only
  refine yw_reg_t ht hr (br_f (by decide) (yw_reg_t ht hs (br_f (by decide) ?_)))
  rw [th_c4', th_c4', nI_clamp (n := 4 * t + r) (by omega), nI_clamp (n := 4 * t + s) (by omega)]
  exact ⟨vp_in_nI (by omega) (by decide), vp_in_nI (by omega) (by decide), nm_r th_upd K⟩
theorem xg_drop {post : Int32 → SX → Prop} {c : Int32} {rm m p : Nat} {R G F S : Nat → Nat} {xn tk mk rc : Nat → Int32} {t r : Nat} (ht : t < 3) (hr : r < 4) (K : post 0 (th_X c rm m p (th_up R (4 * t + r) 0) G F S xn tk mk rc)) :
    wpX_drop post (th_X c rm m p R G F S xn tk mk rc) (nI t) (nI r) := by
  unfold wpX_drop
  dsimp only
  refine xw_reg_t ht hr (br_f (by decide) (xw_cell ?_))
  rw [nI_clamp (n := 4 * t + r) (by omega)]
  exact ⟨vp_in_nI (by omega) (by decide), nm_r (th_upd (v := 0)) K⟩
theorem yg_drop {post : Int32 → SY → Prop} {rm m : Nat} {R G F : Nat → Nat} {yn yr : Nat → Int32} {t r : Nat} (ht : t < 3) (hr : r < 4) (K : post 0 (th_Y rm m (th_up R (4 * t + r) 0) G F yn yr)) :
    wpY_drop post (th_Y rm m R G F yn yr) (nI t) (nI r) := by
  unfold wpY_drop
  dsimp only
  refine yw_reg_t ht hr (br_f (by decide) ?_)
  rw [th_c4', nI_clamp (n := 4 * t + r) (by omega)]
  exact ⟨vp_in_nI (by omega) (by decide), nm_r (th_upd (v := 0)) K⟩
theorem xg_load0 {post : Int32 → SX → Prop} {c : Int32} {rm m p : Nat} {R G F S : Nat → Nat} {xn tk mk rc : Nat → Int32} {t r s f : Nat} (ht : t < 3) (hr : r < 4) (hs : s < 4) (hf : f < 2) (hR : R (4 * t + s) ≤ 16) (h0 : R (4 * t + s) = 0) (K : post (-3) (th_X c rm m p R G F S xn tk mk rc)) :
    wpX_load post (th_X c rm m p R G F S xn tk mk rc) (nI t) (nI r) (nI s) (nI f) := by
  unfold wpX_load
  dsimp only
  refine xw_reg_t ht hr (br_f (by decide) (xw_reg_t ht hs (br_f (by decide) (xw_fld_t hf (br_f (by decide) (xw_cell ?_))))))
  rw [nI_clamp (n := 4 * t + s) (by omega), h0]
  exact ⟨vp_in_nI (by omega) (by decide), nm_e (br_t rfl K)⟩
theorem xg_load {post : Int32 → SX → Prop} {c : Int32} {rm m p : Nat} {R G F S : Nat → Nat} {xn tk mk rc : Nat → Int32} {t r s f : Nat} (ht : t < 3) (hr : r < 4) (hs : s < 4) (hf : f < 2) (hR : R (4 * t + s) ≤ 16) (h0 : R (4 * t + s) ≠ 0) (K : post 0 (th_X c rm m p (th_up R (4 * t + r) (F (2 * R (4 * t + s) + f))) G F S xn tk mk rc)) :
    wpX_load post (th_X c rm m p R G F S xn tk mk rc) (nI t) (nI r) (nI s) (nI f) := by
  unfold wpX_load
  dsimp only
  refine xw_reg_t ht hr (br_f (by decide) (xw_reg_t ht hs (br_f (by decide) (xw_fld_t hf (br_f (by decide) (xw_cell ?_))))))
  rw [nI_clamp (n := 4 * t + s) (by omega)]
  refine ⟨vp_in_nI (by omega) (by decide), nm_e (br_f (nI_ne0 (by omega) (by omega)) (xw_cell (xw_fcell ?_)))⟩
  rw [nI_clamp (n := 4 * t + r) (by omega), nI_clamp (n := 2 * R (4 * t + s) + f) (by omega)]
  exact ⟨vp_in_nI (by omega) (by decide), vp_in_nI (by omega) (by decide), nm_r th_upd K⟩
theorem yg_load0 {post : Int32 → SY → Prop} {rm m : Nat} {R G F : Nat → Nat} {yn yr : Nat → Int32} {t r s f : Nat} (ht : t < 3) (hr : r < 4) (hs : s < 4) (hf : f < 2) (hR : R (4 * t + s) ≤ 512) (h0 : R (4 * t + s) = 0) (K : post (-3) (th_Y rm m R G F yn yr)) :
    wpY_load post (th_Y rm m R G F yn yr) (nI t) (nI r) (nI s) (nI f) := by
  unfold wpY_load
  dsimp only
  refine yw_reg_t ht hr (br_f (by decide) (yw_reg_t ht hs (br_f (by decide) (yw_bit_t hf (br_f (by decide) ?_)))))
  rw [th_c4', nI_clamp (n := 4 * t + s) (by omega), h0]
  exact ⟨vp_in_nI (by omega) (by decide), nm_e (br_t rfl K)⟩
theorem yg_load {post : Int32 → SY → Prop} {rm m : Nat} {R G F : Nat → Nat} {yn yr : Nat → Int32} {t r s f : Nat} (ht : t < 3) (hr : r < 4) (hs : s < 4) (hf : f < 2) (hR : R (4 * t + s) ≤ 512) (h0 : R (4 * t + s) ≠ 0) (K : post 0 (th_Y rm m (th_up R (4 * t + r) (F (2 * R (4 * t + s) + f))) G F yn yr)) :
    wpY_load post (th_Y rm m R G F yn yr) (nI t) (nI r) (nI s) (nI f) := by
  unfold wpY_load
  dsimp only
  refine yw_reg_t ht hr (br_f (by decide) (yw_reg_t ht hs (br_f (by decide) (yw_bit_t hf (br_f (by decide) ?_)))))
  rw [th_c4', th_c4', nI_clamp (n := 4 * t + s) (by omega), nI_clamp (n := 4 * t + r) (by omega)]
  refine ⟨vp_in_nI (by omega) (by decide), nm_e (br_f (nI_ne0 (by omega) (by omega)) ?_)⟩
  rw [th_c2', nI_clamp (n := 2 * R (4 * t + s) + f) (by omega)]
  exact ⟨vp_in_nI (by omega) (by decide), vp_in_nI (by omega) (by decide), nm_r th_upd K⟩
theorem xg_store0 {post : Int32 → SX → Prop} {c : Int32} {rm m p : Nat} {R G F S : Nat → Nat} {xn tk mk rc : Nat → Int32} {t r s f : Nat} (ht : t < 3) (hr : r < 4) (hs : s < 4) (hf : f < 2) (hR : R (4 * t + s) ≤ 16) (h0 : R (4 * t + s) = 0) (K : post (-3) (th_X c rm m p R G F S xn tk mk rc)) :
    wpX_store post (th_X c rm m p R G F S xn tk mk rc) (nI t) (nI s) (nI f) (nI r) := by
  unfold wpX_store
  dsimp only
  refine xw_reg_t ht hs (br_f (by decide) (xw_fld_t hf (br_f (by decide) (xw_reg_t ht hr (br_f (by decide) (xw_cell ?_))))))
  rw [nI_clamp (n := 4 * t + s) (by omega), h0]
  exact ⟨vp_in_nI (by omega) (by decide), nm_e (br_t rfl K)⟩
theorem xg_store {post : Int32 → SX → Prop} {c : Int32} {rm m p : Nat} {R G F S : Nat → Nat} {xn tk mk rc : Nat → Int32} {t r s f : Nat} (ht : t < 3) (hr : r < 4) (hs : s < 4) (hf : f < 2) (hR : R (4 * t + s) ≤ 16) (h0 : R (4 * t + s) ≠ 0) (K : post 0 (th_X c rm m p R G (th_up F (2 * R (4 * t + s) + f) (R (4 * t + r))) S xn tk mk rc)) :
    wpX_store post (th_X c rm m p R G F S xn tk mk rc) (nI t) (nI s) (nI f) (nI r) := by
  unfold wpX_store
  dsimp only
  refine xw_reg_t ht hs (br_f (by decide) (xw_fld_t hf (br_f (by decide) (xw_reg_t ht hr (br_f (by decide) (xw_cell ?_))))))
  rw [nI_clamp (n := 4 * t + s) (by omega)]
  refine ⟨vp_in_nI (by omega) (by decide), nm_e (br_f (nI_ne0 (by omega) (by omega)) (xw_fcell (xw_cell ?_)))⟩
  rw [nI_clamp (n := 4 * t + r) (by omega), nI_clamp (n := 2 * R (4 * t + s) + f) (by omega)]
  exact ⟨vp_in_nI (by omega) (by decide), vp_in_nI (by omega) (by decide), nm_r th_upd K⟩
theorem yg_store0 {post : Int32 → SY → Prop} {rm m : Nat} {R G F : Nat → Nat} {yn yr : Nat → Int32} {t r s f : Nat} (ht : t < 3) (hr : r < 4) (hs : s < 4) (hf : f < 2) (hR : R (4 * t + s) ≤ 512) (h0 : R (4 * t + s) = 0) (K : post (-3) (th_Y rm m R G F yn yr)) :
    wpY_store post (th_Y rm m R G F yn yr) (nI t) (nI s) (nI f) (nI r) := by
  unfold wpY_store
  dsimp only
  refine yw_reg_t ht hr (br_f (by decide) (yw_reg_t ht hs (br_f (by decide) (yw_bit_t hf (br_f (by decide) ?_)))))
  rw [th_c4', nI_clamp (n := 4 * t + s) (by omega), h0]
  exact ⟨vp_in_nI (by omega) (by decide), nm_e (br_t rfl K)⟩
theorem yg_store {post : Int32 → SY → Prop} {rm m : Nat} {R G F : Nat → Nat} {yn yr : Nat → Int32} {t r s f : Nat} (ht : t < 3) (hr : r < 4) (hs : s < 4) (hf : f < 2) (hR : R (4 * t + s) ≤ 512) (h0 : R (4 * t + s) ≠ 0) (K : post 0 (th_Y rm m R G (th_up F (2 * R (4 * t + s) + f) (R (4 * t + r))) yn yr)) :
    wpY_store post (th_Y rm m R G F yn yr) (nI t) (nI s) (nI f) (nI r) := by
  unfold wpY_store
  dsimp only
  refine yw_reg_t ht hr (br_f (by decide) (yw_reg_t ht hs (br_f (by decide) (yw_bit_t hf (br_f (by decide) ?_)))))
  rw [th_c4', th_c4', nI_clamp (n := 4 * t + s) (by omega), nI_clamp (n := 4 * t + r) (by omega)]
  refine ⟨vp_in_nI (by omega) (by decide), nm_e (br_f (nI_ne0 (by omega) (by omega)) ?_)⟩
  rw [th_c2', nI_clamp (n := 2 * R (4 * t + s) + f) (by omega)]
  exact ⟨vp_in_nI (by omega) (by decide), vp_in_nI (by omega) (by decide), nm_r th_upd K⟩
theorem xg_put {post : Int32 → SX → Prop} {c : Int32} {rm m p : Nat} {R G F S : Nat → Nat} {xn tk mk rc : Nat → Int32} {t r g : Nat} (ht : t < 3) (hr : r < 4) (hg : g < 2) (K : post 0 (th_X c rm m p R (th_up G g (R (4 * t + r))) F S xn tk mk rc)) :
    wpX_put post (th_X c rm m p R G F S xn tk mk rc) (nI t) (nI g) (nI r) := by
  unfold wpX_put
  dsimp only
  refine xw_reg_t ht hr (br_f (by decide) (xw_glb_t hg (br_f (by decide) (xw_cell ?_))))
  rw [nI_clamp (n := 4 * t + r) (by omega), nI_clamp (n := g) (by omega)]
  exact ⟨vp_in_nI (by omega) (by decide), vp_in_nI (by omega) (by decide), nm_r th_upd K⟩
theorem yg_put {post : Int32 → SY → Prop} {rm m : Nat} {R G F : Nat → Nat} {yn yr : Nat → Int32} {t r g : Nat} (ht : t < 3) (hr : r < 4) (hg : g < 2) (K : post 0 (th_Y rm m R (th_up G g (R (4 * t + r))) F yn yr)) :
    wpY_put post (th_Y rm m R G F yn yr) (nI t) (nI g) (nI r) := by
  unfold wpY_put
  dsimp only
  refine yw_reg_t ht hr (br_f (by decide) (yw_bit_t hg (br_f (by decide) ?_)))
  rw [th_c4', nI_clamp (n := 4 * t + r) (by omega), nI_clamp (n := g) (by omega)]
  exact ⟨vp_in_nI (by omega) (by decide), vp_in_nI (by omega) (by decide), nm_r th_upd K⟩
theorem xg_get {post : Int32 → SX → Prop} {c : Int32} {rm m p : Nat} {R G F S : Nat → Nat} {xn tk mk rc : Nat → Int32} {t r g : Nat} (ht : t < 3) (hr : r < 4) (hg : g < 2) (K : post 0 (th_X c rm m p (th_up R (4 * t + r) (G g)) G F S xn tk mk rc)) :
    wpX_get post (th_X c rm m p R G F S xn tk mk rc) (nI t) (nI r) (nI g) := by
  unfold wpX_get
  dsimp only
  refine xw_reg_t ht hr (br_f (by decide) (xw_glb_t hg (br_f (by decide) (xw_cell ?_))))
  rw [nI_clamp (n := 4 * t + r) (by omega), nI_clamp (n := g) (by omega)]
  exact ⟨vp_in_nI (by omega) (by decide), vp_in_nI (by omega) (by decide), nm_r th_upd K⟩
theorem yg_get {post : Int32 → SY → Prop} {rm m : Nat} {R G F : Nat → Nat} {yn yr : Nat → Int32} {t r g : Nat} (ht : t < 3) (hr : r < 4) (hg : g < 2) (K : post 0 (th_Y rm m (th_up R (4 * t + r) (G g)) G F yn yr)) :
    wpY_get post (th_Y rm m R G F yn yr) (nI t) (nI r) (nI g) := by
  unfold wpY_get
  dsimp only
  refine yw_reg_t ht hr (br_f (by decide) (yw_bit_t hg (br_f (by decide) ?_)))
  rw [th_c4', nI_clamp (n := 4 * t + r) (by omega), nI_clamp (n := g) (by omega)]
  exact ⟨vp_in_nI (by omega) (by decide), vp_in_nI (by omega) (by decide), nm_r th_upd K⟩
theorem xg_swap {post : Int32 → SX → Prop} {c : Int32} {rm m p : Nat} {R G F S : Nat → Nat} {xn tk mk rc : Nat → Int32} {t r q s : Nat} (ht : t < 3) (hr : r < 4) (hq : q < 3) (hs : s < 4) (K : post 0 (th_X c rm m p (th_up (th_up R (4 * t + r) (R (4 * q + s))) (4 * q + s) (R (4 * t + r))) G F S xn tk mk rc)) :
    wpX_swap post (th_X c rm m p R G F S xn tk mk rc) (nI t) (nI r) (nI q) (nI s) := by
  unfold wpX_swap
  dsimp only
  refine xw_reg_t ht hr (br_f (by decide) (xw_reg_t hq hs (br_f (by decide) (xw_cell (xw_cell ?_)))))
  rw [nI_clamp (n := 4 * t + r) (by omega), nI_clamp (n := 4 * q + s) (by omega)]
  exact ⟨vp_in_nI (by omega) (by decide), nm_e ⟨vp_in_nI (by omega) (by decide), vp_in_nI (by omega) (by decide), nm_r th_upd ⟨vp_in_nI (by omega) (by decide), nm_r th_upd K⟩⟩⟩
theorem yg_swap {post : Int32 → SY → Prop} {rm m : Nat} {R G F : Nat → Nat} {yn yr : Nat → Int32} {t r q s : Nat} (ht : t < 3) (hr : r < 4) (hq : q < 3) (hs : s < 4) (K : post 0 (th_Y rm m (th_up (th_up R (4 * t + r) (R (4 * q + s))) (4 * q + s) (R (4 * t + r))) G F yn yr)) :
    wpY_swap post (th_Y rm m R G F yn yr) (nI t) (nI r) (nI q) (nI s) := by
  unfold wpY_swap
  dsimp only
  refine yw_reg_t ht hr (br_f (by decide) (yw_reg_t hq hs (br_f (by decide) ?_)))
  rw [th_c4', th_c4', nI_clamp (n := 4 * t + r) (by omega), nI_clamp (n := 4 * q + s) (by omega)]
  exact ⟨vp_in_nI (by omega) (by decide), nm_e ⟨vp_in_nI (by omega) (by decide), vp_in_nI (by omega) (by decide), nm_r th_upd ⟨vp_in_nI (by omega) (by decide), nm_r th_upd K⟩⟩⟩
theorem xg_setN0 {post : Int32 → SX → Prop} {c : Int32} {rm m p : Nat} {R G F S : Nat → Nat} {xn tk mk rc : Nat → Int32} {t r : Nat} {n : Int32} (ht : t < 3) (hr : r < 4) (h0 : R (4 * t + r) = 0) (K : post (-3) (th_X c rm m p R G F S xn tk mk rc)) :
    wpX_setNumber post (th_X c rm m p R G F S xn tk mk rc) (nI t) (nI r) n := by
  unfold wpX_setNumber
  dsimp only
  refine xw_reg_t ht hr (br_f (by decide) (xw_cell ?_))
  rw [nI_clamp (n := 4 * t + r) (by omega), h0]
  exact ⟨vp_in_nI (by omega) (by decide), nm_e (br_t rfl K)⟩
theorem xg_setN {post : Int32 → SX → Prop} {c : Int32} {rm m p : Nat} {R G F S : Nat → Nat} {xn tk mk rc : Nat → Int32} {t r : Nat} {n : Int32} (ht : t < 3) (hr : r < 4) (hR : R (4 * t + r) ≤ 16) (h0 : R (4 * t + r) ≠ 0) (K : post 0 (th_X c rm m p R G F S (upd xn (R (4 * t + r)) n) tk mk rc)) :
    wpX_setNumber post (th_X c rm m p R G F S xn tk mk rc) (nI t) (nI r) n := by
  unfold wpX_setNumber
  dsimp only
  refine xw_reg_t ht hr (br_f (by decide) (xw_cell ?_))
  rw [nI_clamp (n := 4 * t + r) (by omega)]
  refine ⟨vp_in_nI (by omega) (by decide), nm_e (br_f (nI_ne0 (by omega) (by omega)) ⟨vp_in_nI (by omega) (by decide), nm_r ?_ K⟩)⟩
  rw [nI_clamp (n := R (4 * t + r)) (by omega)]
theorem yg_setN0 {post : Int32 → SY → Prop} {rm m : Nat} {R G F : Nat → Nat} {yn yr : Nat → Int32} {t r : Nat} {n : Int32} (ht : t < 3) (hr : r < 4) (h0 : R (4 * t + r) = 0) (K : post (-3) (th_Y rm m R G F yn yr)) :
    wpY_setNumber post (th_Y rm m R G F yn yr) (nI t) (nI r) n := by
  unfold wpY_setNumber
  dsimp only
  refine yw_reg_t ht hr (br_f (by decide) ?_)
  rw [th_c4', nI_clamp (n := 4 * t + r) (by omega), h0]
  exact ⟨vp_in_nI (by omega) (by decide), nm_e (br_t rfl K)⟩
theorem yg_setN {post : Int32 → SY → Prop} {rm m : Nat} {R G F : Nat → Nat} {yn yr : Nat → Int32} {t r : Nat} {n : Int32} (ht : t < 3) (hr : r < 4) (hR : R (4 * t + r) ≤ 512) (h0 : R (4 * t + r) ≠ 0) (K : post 0 (th_Y rm m R G F (upd yn (R (4 * t + r)) n) yr)) :
    wpY_setNumber post (th_Y rm m R G F yn yr) (nI t) (nI r) n := by
  unfold wpY_setNumber
  dsimp only
  refine yw_reg_t ht hr (br_f (by decide) ?_)
  rw [th_c4', nI_clamp (n := 4 * t + r) (by omega)]
  refine ⟨vp_in_nI (by omega) (by decide), nm_e (br_f (nI_ne0 (by omega) (by omega)) ⟨vp_in_nI (by omega) (by decide), nm_r ?_ K⟩)⟩
  rw [nI_clamp (n := R (4 * t + r)) (by omega)]
theorem xg_number {post : Int32 → Prop} {c : Int32} {rm m p : Nat} {R G F S : Nat → Nat} {xn tk mk rc : Nat → Int32} {t r : Nat} (ht : t < 3) (hr : r < 4) (hR : R (4 * t + r) ≤ 16) (K : post (xn (R (4 * t + r)))) :
    wpX_number post (th_X c rm m p R G F S xn tk mk rc) (nI t) (nI r) := by
  unfold wpX_number
  dsimp only
  refine xw_reg_t ht hr (br_f (by decide) (xw_cell ?_))
  rw [nI_clamp (n := 4 * t + r) (by omega)]
  refine ⟨vp_in_nI (by omega) (by decide), vp_in_nI (by omega) (by decide), ?_⟩
  rw [nI_clamp (n := R (4 * t + r)) (by omega)]
  exact K
theorem yg_number {post : Int32 → Prop} {rm m : Nat} {R G F : Nat → Nat} {yn yr : Nat → Int32} {t r : Nat} (ht : t < 3) (hr : r < 4) (hR : R (4 * t + r) ≤ 512) (K0 : R (4 * t + r) = 0 → post 0) (K : R (4 * t + r) ≠ 0 → post (yn (R (4 * t + r)))) :
    wpY_number post (th_Y rm m R G F yn yr) (nI t) (nI r) := by
  unfold wpY_number
  dsimp only
  refine yw_reg_t ht hr (br_f (by decide) ?_)
  rw [th_c4', nI_clamp (n := 4 * t + r) (by omega)]
  refine ⟨vp_in_nI (by omega) (by decide), ?_⟩
  by_cases z : R (4 * t + r) = 0
  · rw [z]
    exact br_t rfl (K0 z)
  · refine br_f (nI_ne0 (by omega) (by omega)) ⟨vp_in_nI (by omega) (by decide), vp_in_nI (by omega) (by decide), ?_⟩
    rw [nI_clamp (n := R (4 * t + r)) (by omega)]
    exact K z
theorem xg_serial {post : Int32 → Prop} {c : Int32} {rm m p : Nat} {R G F S : Nat → Nat} {xn tk mk rc : Nat → Int32} {t r : Nat} (ht : t < 3) (hr : r < 4) (hR : R (4 * t + r) ≤ 16) (K : post (nI (S (R (4 * t + r))))) :
    wpX_serial post (th_X c rm m p R G F S xn tk mk rc) (nI t) (nI r) := by
  unfold wpX_serial
  dsimp only
  refine xw_reg_t ht hr (br_f (by decide) (xw_cell ?_))
  rw [nI_clamp (n := 4 * t + r) (by omega)]
  refine ⟨vp_in_nI (by omega) (by decide), vp_in_nI (by omega) (by decide), ?_⟩
  rw [nI_clamp (n := R (4 * t + r)) (by omega)]
  exact K
theorem yg_serial {post : Int32 → Prop} {rm m : Nat} {R G F : Nat → Nat} {yn yr : Nat → Int32} {t r : Nat} (ht : t < 3) (hr : r < 4) (K : post (nI (R (4 * t + r)))) :
    wpY_serial post (th_Y rm m R G F yn yr) (nI t) (nI r) := by
  unfold wpY_serial
  dsimp only
  refine yw_reg_t ht hr (br_f (by decide) ?_)
  rw [th_c4', nI_clamp (n := 4 * t + r) (by omega)]
  exact ⟨vp_in_nI (by omega) (by decide), K⟩
theorem xg_serialIn {post : Int32 → Prop} {c : Int32} {rm m p : Nat} {R G F S : Nat → Nat} {xn tk mk rc : Nat → Int32} {t r f : Nat} (ht : t < 3) (hr : r < 4) (hf : f < 2) (hR : R (4 * t + r) ≤ 16) (hF : F (2 * R (4 * t + r) + f) ≤ 16) (K0 : R (4 * t + r) = 0 → post (-3)) (K : R (4 * t + r) ≠ 0 → post (nI (S (F (2 * R (4 * t + r) + f))))) :
    wpX_serialIn post (th_X c rm m p R G F S xn tk mk rc) (nI t) (nI r) (nI f) := by
  unfold wpX_serialIn
  dsimp only
  refine xw_reg_t ht hr (br_f (by decide) (xw_fld_t hf (br_f (by decide) (xw_cell ?_))))
  rw [nI_clamp (n := 4 * t + r) (by omega)]
  refine ⟨vp_in_nI (by omega) (by decide), ?_⟩
  by_cases z : R (4 * t + r) = 0
  · rw [z]
    exact nm_e (br_t rfl (K0 z))
  · refine nm_e (br_f (nI_ne0 (by omega) (by omega)) (xw_fcell ?_))
    rw [nI_clamp (n := 2 * R (4 * t + r) + f) (by omega), nI_clamp (n := F (2 * R (4 * t + r) + f)) (by omega)]
    exact ⟨vp_in_nI (by omega) (by decide), vp_in_nI (by omega) (by decide), K z⟩
theorem yg_serialIn {post : Int32 → Prop} {rm m : Nat} {R G F : Nat → Nat} {yn yr : Nat → Int32} {t r f : Nat} (ht : t < 3) (hr : r < 4) (hf : f < 2) (hR : R (4 * t + r) ≤ 512) (K0 : R (4 * t + r) = 0 → post (-3)) (K : R (4 * t + r) ≠ 0 → post (nI (F (2 * R (4 * t + r) + f)))) :
    wpY_serialIn post (th_Y rm m R G F yn yr) (nI t) (nI r) (nI f) := by
  unfold wpY_serialIn
  dsimp only
  refine yw_reg_t ht hr (br_f (by decide) (yw_bit_t hf (br_f (by decide) ?_)))
  rw [th_c4', nI_clamp (n := 4 * t + r) (by omega)]
  refine ⟨vp_in_nI (by omega) (by decide), ?_⟩
  by_cases z : R (4 * t + r) = 0
  · rw [z]
    exact nm_e (br_t rfl (K0 z))
  · refine nm_e (br_f (nI_ne0 (by omega) (by omega)) ?_)
    rw [th_c2', nI_clamp (n := 2 * R (4 * t + r) + f) (by omega)]
    exact ⟨vp_in_nI (by omega) (by decide), K z⟩
theorem xg_serialOf {post : Int32 → Prop} {c : Int32} {rm m p : Nat} {R G F S : Nat → Nat} {xn tk mk rc : Nat → Int32} {g : Nat} (hg : g < 2) (hG : G g ≤ 16) (K : post (nI (S (G g)))) :
    wpX_serialOf post (th_X c rm m p R G F S xn tk mk rc) (nI g) := by
  unfold wpX_serialOf
  dsimp only
  refine xw_glb_t hg (br_f (by decide) ?_)
  rw [nI_clamp (n := g) (by omega), nI_clamp (n := G g) (by omega)]
  exact ⟨vp_in_nI (by omega) (by decide), vp_in_nI (by omega) (by decide), K⟩
theorem yg_serialOf {post : Int32 → Prop} {rm m : Nat} {R G F : Nat → Nat} {yn yr : Nat → Int32} {g : Nat} (hg : g < 2) (K : post (nI (G g))) :
    wpY_serialOf post (th_Y rm m R G F yn yr) (nI g) := by
  unfold wpY_serialOf
  dsimp only
  refine yw_bit_t hg (br_f (by decide) ?_)
  rw [nI_clamp (n := g) (by omega)]
  exact ⟨vp_in_nI (by omega) (by decide), K⟩
/-! make -/
theorem xg_make {post : Int32 → SX → Prop} {k rm m p : Nat} {R G F S YF : Nat → Nat} {A : Nat → Prop} {xn tk yn mk rc : Nat → Int32} {c n : Int32} {t r : Nat}
    (ht : t < 3) (hr : r < 4) (h : th_inv k rm m p R G F S YF A xn tk yn)
    (K0 : ∀ (p' : Nat) (A' : Nat → Prop) (tk' mk' rc' : Nat → Int32) (c' : Int32), th_inv k rm m p' R G F S YF A' xn tk' yn →
      (∃ mk, th_lst R G F mk rm ∧ th_cnt mk rm = rm) → post (-2) (th_X c' rm m p' R G F S xn tk' mk' rc'))
    (K1 : ∀ (s p' : Nat) (A' : Nat → Prop) (tk' mk' rc' : Nat → Int32) (c' : Int32), th_inv k rm m p' R G F S YF A' xn tk' yn → 1 ≤ s → s ≤ rm → tk' s = 0 →
      post (nI (m + 1)) (th_X c' rm (m + 1) p' (th_up R (4 * t + r) s) G (th_up (th_up F (2 * s) 0) (2 * s + 1) 0) (th_up S s (m + 1)) (upd xn s n) (upd tk' s 1) mk' rc')) :
    wpX_make post (th_X c rm m p R G F S xn tk mk rc) (nI t) (nI r) n := by
  have h16 := h.1.2.1
  unfold wpX_make
  dsimp only
  refine xw_reg_t ht hr (br_f (by decide) (xw_room h (fun s p' A' tk' mk' rc' c' h' hs => ?_)))
  dsimp only
  rcases hs with ⟨s1, s2, s3⟩ | ⟨rfl, hs⟩
  · refine br_f (nI_ne0 (by omega) (by omega)) (nm_r (nI_1 m) ?_)
    rw [nI_clamp (n := s) (by omega), th_b1]
    refine ⟨vp_in_nI (by omega) (by decide), nm_e ⟨vp_in_nI (by omega) (by decide), nm_e ⟨vp_in_nI (by omega) (by decide), nm_r th_upd ?_⟩⟩⟩
    refine xw_fcell (f := 0) ?_
    rw [nI_clamp (n := 2 * s + 0) (by omega)]
    refine ⟨vp_in_nI (by omega) (by decide), nm_r (th_upd (v := 0)) (xw_fcell (f := 1) ?_)⟩
    rw [nI_clamp (n := 2 * s + 1) (by omega)]
    refine ⟨vp_in_nI (by omega) (by decide), nm_r (th_upd (v := 0)) (xw_cell ?_)⟩
    rw [nI_clamp (n := 4 * t + r) (by omega)]
    exact ⟨vp_in_nI (by omega) (by decide), nm_r th_upd (K1 s p' A' tk' mk' rc' c' h' s1 s2 s3)⟩
  · exact br_t rfl (K0 p' A' tk' mk' rc' c' h' hs)
theorem yg_make {post : Int32 → SY → Prop} {rm m : Nat} {R G F : Nat → Nat} {yn yr : Nat → Int32} {n : Int32} {t r : Nat}
    (ht : t < 3) (hr : r < 4) (h16 : rm ≤ 16) (hm : m ≤ 511) (hR : ∀ i, R i ≤ m) (hG : ∀ i, G i ≤ m) (hF : ∀ i, F i ≤ m)
    (K0 : ∀ a, th_lst R G F a m → rm ≤ th_cnt a m → post (-2) (th_Y rm m R G F yn a))
    (K1 : ∀ a, th_lst R G F a m → th_cnt a m < rm → post (nI (m + 1)) (th_Y rm (m + 1) (th_up R (4 * t + r) (m + 1)) G (th_up (th_up F (2 * (m + 1)) 0) (2 * (m + 1) + 1) 0) (upd yn (m + 1) n) a)) :
    wpY_make post (th_Y rm m R G F yn yr) (nI t) (nI r) n := by
  unfold wpY_make
  dsimp only
  refine yw_reg_t ht hr (br_f (by decide) (yw_live hm hR hG hF (fun a la => ?_)))
  dsimp only
  have hc := th_cnt_le a m
  by_cases q : rm ≤ th_cnt a m
  · exact br_t (nI_le q (by omega)) (K0 a la q)
  · refine br_f (nI_ge (by omega) (by omega)) (br_f (fun e => ?_) (nm_r (nI_1 m) ?_))
    · have := (nI_eq (a := m) (b := 512) (by omega) (by decide)).mp e
      omega
    · rw [th_d2', nI_1, th_c4', nI_clamp (n := 2 * (m + 1)) (by omega), nI_clamp (n := 2 * (m + 1) + 1) (by omega), nI_clamp (n := m + 1) (by omega), nI_clamp (n := 4 * t + r) (by omega)]
      exact ⟨vp_in_nI (by omega) (by decide), nm_r (th_upd (v := 0)) ⟨vp_in_nI (by omega) (by decide), nm_r (th_upd (v := 0)) ⟨vp_in_nI (by omega) (by decide), nm_e ⟨vp_in_nI (by omega) (by decide), nm_r th_upd (K1 a la (by omega))⟩⟩⟩⟩
/-! rest -/
theorem xg_rest {post : SX → Prop} {k rm m p : Nat} {R G F S YF : Nat → Nat} {A : Nat → Prop} {xn tk yn mk rc : Nat → Int32} {c x : Int32}
    (h : th_inv k rm m p R G F S YF A xn tk yn)
    (K : ∀ (p' : Nat) (A' : Nat → Prop) (tk' mk' rc' : Nat → Int32) (c' : Int32), th_inv k rm m p' R G F S YF A' xn tk' yn → post (th_X c' rm m p' R G F S xn tk' mk' rc')) :
    wpX_rest post (th_X c rm m p R G F S xn tk mk rc) x := by
  have go : ∀ st : Nat, st < 100 → wX_rest_18 post (nI st) c (nI rm) (nI m) (nI p) (fun i => nI (R i)) (fun i => nI (G i)) xn (fun i => nI (S i)) (fun i => nI (F i)) tk mk rc := by
    intro st hst
    unfold wX_rest_18
    refine xw_mark h.1.2.1 h.2.1.2.2.1 h.2.1.2.1 h.2.1.1 (fun mk' rc' ls => ?_)
    exact xw_sweep h.1.1 h.1.2.1 h.1.2.2.2 hst (fun q tk' ok => K q _ tk' mk' rc' _ (th_swp h ls ok.1 (sw_keep ok)))
  unfold wpX_rest
  dsimp only
  refine br_c (fun h1 => br_c (fun h2 => ?_) (fun _ => go 63 (by omega))) (fun _ => K p A tk mk rc c h)
  obtain ⟨j, hj, rfl⟩ := nI_of2 (x := x) (M := 63) (n := 63) (by decide) (fun z => Int32.not_lt.mpr h1 (Int32.lt_trans z (by decide))) h2
  exact go j (by omega)
end
section
/-! the owed statements -/
theorem th_upS {R S : Nat → Nat} {c x : Nat} : th_up (fun i => S (R i)) c (S x) = fun i => S (th_up R c x i) := by
  funext j
  by_cases e : j = c
  · rw [e, th_ups, th_ups]
  · rw [th_upn e, th_upn e]
def i_Rel (k : Nat) (u : SX) (v : SY) : Prop :=
  ∃ (c : Int32) (rm m p : Nat) (R G F S YF : Nat → Nat) (A : Nat → Prop) (xn tk mk rc yn yr : Nat → Int32),
    u = th_X c rm m p R G F S xn tk mk rc ∧ v = th_Y rm m (fun i => S (R i)) (fun i => S (G i)) YF yn yr ∧ th_inv k rm m p R G F S YF A xn tk yn
theorem i_up {k : Nat} {u : SX} {v : SY} (h : i_Rel k u v) : i_Rel (k + 5) u v := by
  obtain ⟨c, rm, m, p, R, G, F, S, YF, A, xn, tk, mk, rc, yn, yr, e1, e2, h⟩ := h
  exact ⟨c, rm, m, p, R, G, F, S, YF, A, xn, tk, mk, rc, yn, yr, e1, e2, th_up1 h (by omega)⟩
theorem th_rel {c : Int32} {k rm m p : Nat} {R G F S YF : Nat → Nat} {A : Nat → Prop} {xn tk mk rc yn yr : Nat → Int32} (h : th_inv k rm m p R G F S YF A xn tk yn) :
    i_Rel k (th_X c rm m p R G F S xn tk mk rc) (th_Y rm m (fun i => S (R i)) (fun i => S (G i)) YF yn yr) :=
  ⟨c, rm, m, p, R, G, F, S, YF, A, xn, tk, mk, rc, yn, yr, rfl, rfl, h⟩
theorem th_relR {c : Int32} {k rm m p i x : Nat} {R G F S YF : Nat → Nat} {A : Nat → Prop} {xn tk mk rc yn yr : Nat → Int32} (h : th_inv k rm m p (th_up R i x) G F S YF A xn tk yn) :
    i_Rel k (th_X c rm m p (th_up R i x) G F S xn tk mk rc) (th_Y rm m (th_up (fun i => S (R i)) i (S x)) (fun i => S (G i)) YF yn yr) := by
  rw [th_upS]
  exact th_rel h
theorem th_relG {c : Int32} {k rm m p i x : Nat} {R G F S YF : Nat → Nat} {A : Nat → Prop} {xn tk mk rc yn yr : Nat → Int32} (h : th_inv k rm m p R (th_up G i x) F S YF A xn tk yn) :
    i_Rel k (th_X c rm m p R (th_up G i x) F S xn tk mk rc) (th_Y rm m (fun i => S (R i)) (th_up (fun i => S (G i)) i (S x)) YF yn yr) := by
  rw [th_upS]
  exact th_rel h
theorem i_vc_copy {k : Nat} {u : SX} {v : SY} (I : i_Rel k u v) (hk : k + 5 ≤ 2561) (v1 : Int32) (v2 : Int32) (v3 : Int32) : wpX_copy (fun r u' => wpY_copy (fun r' v' => r' = r ∧ i_Rel (k + 5) u' v') v v1 v2 v3) u v1 v2 v3 := by
  by_cases hh : th_reg v1 v2 ∧ th_reg v1 v3
  · obtain ⟨t, r, s, ht, hr, hs, rfl, rfl, rfl⟩ := th_reg2 hh.1 hh.2
    obtain ⟨c, rm, m, p, R, G, F, S, YF, A, xn, tk, mk, rc, yn, yr, rfl, rfl, h⟩ := I
    have w := th_Rok h (i := 4 * t + s) (by omega)
    exact xg_copy ht hr hs (yg_copy ht hr hs ⟨rfl, th_relR (th_setR h (by omega) w.1 w.2.2 (by omega))⟩)
  · exact xb_copy hh (yb_copy hh ⟨rfl, i_up I⟩)
theorem i_vc_drop {k : Nat} {u : SX} {v : SY} (I : i_Rel k u v) (hk : k + 5 ≤ 2561) (v1 : Int32) (v2 : Int32) : wpX_drop (fun r u' => wpY_drop (fun r' v' => r' = r ∧ i_Rel (k + 5) u' v') v v1 v2) u v1 v2 := by
  by_cases hh : th_reg v1 v2
  · obtain ⟨t, r, ht, hr, rfl, rfl⟩ := hh
    obtain ⟨c, rm, m, p, R, G, F, S, YF, A, xn, tk, mk, rc, yn, yr, rfl, rfl, h⟩ := I
    refine xg_drop ht hr (yg_drop ht hr ⟨rfl, ?_⟩)
    have e : S 0 = 0 := h.2.2.2.1
    have w := th_relR (c := c) (mk := mk) (rc := rc) (yr := yr) (th_setR h (c := 4 * t + r) (x := 0) (k' := k + 5) (by omega) (Nat.zero_le _) (fun z => absurd rfl z) (by omega))
    rw [e] at w
    exact w
  · exact xb_drop hh (yb_drop hh ⟨rfl, i_up I⟩)
theorem i_vc_load {k : Nat} {u : SX} {v : SY} (I : i_Rel k u v) (hk : k + 5 ≤ 2561) (v1 : Int32) (v2 : Int32) (v3 : Int32) (v4 : Int32) : wpX_load (fun r u' => wpY_load (fun r' v' => r' = r ∧ i_Rel (k + 5) u' v') v v1 v2 v3 v4) u v1 v2 v3 v4 := by
  by_cases hh : th_reg v1 v2 ∧ th_reg v1 v3 ∧ th_bit v4
  · obtain ⟨t, r, s, ht, hr, hs, rfl, rfl, rfl⟩ := th_reg2 hh.1 hh.2.1
    obtain ⟨f, hf, rfl⟩ := hh.2.2
    obtain ⟨c, rm, m, p, R, G, F, S, YF, A, xn, tk, mk, rc, yn, yr, rfl, rfl, h⟩ := I
    have w := th_Rok h (i := 4 * t + s) (by omega)
    have hm := th_m h hk
    have hS := th_Sm h (R (4 * t + s))
    have z0 := th_S0 h (i := 4 * t + s) (by omega)
    by_cases z : R (4 * t + s) = 0
    · exact xg_load0 ht hr hs hf (by omega) z (yg_load0 ht hr hs hf (by omega) (z0.mpr z) ⟨rfl, th_rel (th_up1 h (by omega))⟩)
    · have q := th_Fok h (f := f) (w.2.2 z) hf
      refine xg_load ht hr hs hf (by omega) z (yg_load ht hr hs hf (by omega) (fun y => z (z0.mp y)) ⟨rfl, ?_⟩)
      rw [q.2.2.2]
      exact th_relR (th_setR h (by omega) q.1 q.2.2.1 (by omega))
  · exact xb_load hh (yb_load hh ⟨rfl, i_up I⟩)
theorem i_vc_store {k : Nat} {u : SX} {v : SY} (I : i_Rel k u v) (hk : k + 5 ≤ 2561) (v1 : Int32) (v2 : Int32) (v3 : Int32) (v4 : Int32) : wpX_store (fun r u' => wpY_store (fun r' v' => r' = r ∧ i_Rel (k + 5) u' v') v v1 v2 v3 v4) u v1 v2 v3 v4 := by
  by_cases hh : th_reg v1 v2 ∧ th_bit v3 ∧ th_reg v1 v4
  · obtain ⟨t, s, r, ht, hs, hr, rfl, rfl, rfl⟩ := th_reg2 hh.1 hh.2.2
    obtain ⟨f, hf, rfl⟩ := hh.2.1
    obtain ⟨c, rm, m, p, R, G, F, S, YF, A, xn, tk, mk, rc, yn, yr, rfl, rfl, h⟩ := I
    have w := th_Rok h (i := 4 * t + s) (by omega)
    have y := th_Rok h (i := 4 * t + r) (by omega)
    have hm := th_m h hk
    have hS := th_Sm h (R (4 * t + s))
    have z0 := th_S0 h (i := 4 * t + s) (by omega)
    by_cases z : R (4 * t + s) = 0
    · exact xg_store0 ht hr hs hf (by omega) z (yg_store0 ht hr hs hf (by omega) (z0.mpr z) ⟨rfl, th_rel (th_up1 h (by omega))⟩)
    · exact xg_store ht hr hs hf (by omega) z (yg_store ht hr hs hf (by omega) (fun y => z (z0.mp y)) ⟨rfl, th_rel (th_setF h (w.2.2 z) hf y.1 y.2.2 (by omega))⟩)
  · exact xb_store hh (yb_store hh ⟨rfl, i_up I⟩)
theorem i_vc_put {k : Nat} {u : SX} {v : SY} (I : i_Rel k u v) (hk : k + 5 ≤ 2561) (v1 : Int32) (v2 : Int32) (v3 : Int32) : wpX_put (fun r u' => wpY_put (fun r' v' => r' = r ∧ i_Rel (k + 5) u' v') v v1 v2 v3) u v1 v2 v3 := by
  by_cases hh : th_reg v1 v3 ∧ th_bit v2
  · obtain ⟨⟨t, r, ht, hr, rfl, rfl⟩, g, hg, rfl⟩ := hh
    obtain ⟨c, rm, m, p, R, G, F, S, YF, A, xn, tk, mk, rc, yn, yr, rfl, rfl, h⟩ := I
    have w := th_Rok h (i := 4 * t + r) (by omega)
    exact xg_put ht hr hg (yg_put ht hr hg ⟨rfl, th_relG (th_setG h (by omega) w.1 w.2.2 (by omega))⟩)
  · exact xb_put hh (yb_put hh ⟨rfl, i_up I⟩)
theorem i_vc_get {k : Nat} {u : SX} {v : SY} (I : i_Rel k u v) (hk : k + 5 ≤ 2561) (v1 : Int32) (v2 : Int32) (v3 : Int32) : wpX_get (fun r u' => wpY_get (fun r' v' => r' = r ∧ i_Rel (k + 5) u' v') v v1 v2 v3) u v1 v2 v3 := by
  by_cases hh : th_reg v1 v2 ∧ th_bit v3
  · obtain ⟨⟨t, r, ht, hr, rfl, rfl⟩, g, hg, rfl⟩ := hh
    obtain ⟨c, rm, m, p, R, G, F, S, YF, A, xn, tk, mk, rc, yn, yr, rfl, rfl, h⟩ := I
    have w := th_Gok h (i := g) hg
    exact xg_get ht hr hg (yg_get ht hr hg ⟨rfl, th_relR (th_setR h (by omega) w.1 w.2.2 (by omega))⟩)
  · exact xb_get hh (yb_get hh ⟨rfl, i_up I⟩)
theorem i_vc_swap {k : Nat} {u : SX} {v : SY} (I : i_Rel k u v) (hk : k + 5 ≤ 2561) (v1 : Int32) (v2 : Int32) (v3 : Int32) (v4 : Int32) : wpX_swap (fun r u' => wpY_swap (fun r' v' => r' = r ∧ i_Rel (k + 5) u' v') v v1 v2 v3 v4) u v1 v2 v3 v4 := by
  by_cases hh : th_reg v1 v2 ∧ th_reg v3 v4
  · obtain ⟨⟨t, r, ht, hr, rfl, rfl⟩, q, s, hq, hs, rfl, rfl⟩ := hh
    obtain ⟨c, rm, m, p, R, G, F, S, YF, A, xn, tk, mk, rc, yn, yr, rfl, rfl, h⟩ := I
    have w := th_Rok h (i := 4 * t + r) (by omega)
    have y := th_Rok h (i := 4 * q + s) (by omega)
    refine xg_swap ht hr hq hs (yg_swap ht hr hq hs ⟨rfl, ?_⟩)
    have g1 := th_setR (c := 4 * t + r) (x := R (4 * q + s)) (k' := k) h (by omega) y.1 y.2.2 (Nat.le_refl k)
    have g2 := th_setR (c := 4 * q + s) (x := R (4 * t + r)) (k' := k + 5) g1 (by omega) w.1 w.2.2 (by omega)
    have g3 := th_relR (c := c) (mk := mk) (rc := rc) (yr := yr) g2
    rw [← th_upS] at g3
    exact g3
  · exact xb_swap hh (yb_swap hh ⟨rfl, i_up I⟩)
theorem i_vc_setNumber {k : Nat} {u : SX} {v : SY} (I : i_Rel k u v) (hk : k + 5 ≤ 2561) (v1 : Int32) (v2 : Int32) (v3 : Int32) : wpX_setNumber (fun r u' => wpY_setNumber (fun r' v' => r' = r ∧ i_Rel (k + 5) u' v') v v1 v2 v3) u v1 v2 v3 := by
  by_cases hh : th_reg v1 v2
  · obtain ⟨t, r, ht, hr, rfl, rfl⟩ := hh
    obtain ⟨c, rm, m, p, R, G, F, S, YF, A, xn, tk, mk, rc, yn, yr, rfl, rfl, h⟩ := I
    have w := th_Rok h (i := 4 * t + r) (by omega)
    have hm := th_m h hk
    have hS := th_Sm h (R (4 * t + r))
    have z0 := th_S0 h (i := 4 * t + r) (by omega)
    by_cases z : R (4 * t + r) = 0
    · exact xg_setN0 ht hr z (yg_setN0 ht hr (z0.mpr z) ⟨rfl, th_rel (th_up1 h (by omega))⟩)
    · exact xg_setN ht hr (by omega) z (yg_setN ht hr (by omega) (fun y => z (z0.mp y)) ⟨rfl, th_rel (th_setN h (w.2.2 z) (by omega))⟩)
  · exact xb_setNumber hh (yb_setNumber hh ⟨rfl, i_up I⟩)
theorem i_vc_number {k : Nat} {u : SX} {v : SY} (I : i_Rel k u v) (hk : k + 5 ≤ 2561) (v1 : Int32) (v2 : Int32) : wpX_number (fun r => wpY_number (fun r' => r' = r ∧ i_Rel (k + 5) u v) v v1 v2) u v1 v2 := by
  have J := i_up I
  by_cases hh : th_reg v1 v2
  · obtain ⟨t, r, ht, hr, rfl, rfl⟩ := hh
    obtain ⟨c, rm, m, p, R, G, F, S, YF, A, xn, tk, mk, rc, yn, yr, rfl, rfl, h⟩ := I
    have w := th_Rok h (i := 4 * t + r) (by omega)
    have hm := th_m h hk
    have hS := th_Sm h (R (4 * t + r))
    have z0 := th_S0 h (i := 4 * t + r) (by omega)
    refine xg_number ht hr (by omega) (yg_number ht hr (by omega) (fun z => ⟨?_, J⟩) (fun z => ⟨?_, J⟩))
    · rw [z0.mp z]; exact h.2.2.2.2.1.symm
    · exact (h.2.2.1.2.1 _ (w.2.2 (fun y => z (z0.mpr y)))).2.2.2.2.2.1
  · exact xb_number hh (yb_number hh ⟨rfl, J⟩)
theorem i_vc_serial {k : Nat} {u : SX} {v : SY} (I : i_Rel k u v) (hk : k + 5 ≤ 2561) (v1 : Int32) (v2 : Int32) : wpX_serial (fun r => wpY_serial (fun r' => r' = r ∧ i_Rel (k + 5) u v) v v1 v2) u v1 v2 := by
  have J := i_up I
  by_cases hh : th_reg v1 v2
  · obtain ⟨t, r, ht, hr, rfl, rfl⟩ := hh
    obtain ⟨c, rm, m, p, R, G, F, S, YF, A, xn, tk, mk, rc, yn, yr, rfl, rfl, h⟩ := I
    have w := th_Rok h (i := 4 * t + r) (by omega)
    exact xg_serial ht hr (by omega) (yg_serial ht hr ⟨rfl, J⟩)
  · exact xb_serial hh (yb_serial hh ⟨rfl, J⟩)
theorem i_vc_serialIn {k : Nat} {u : SX} {v : SY} (I : i_Rel k u v) (hk : k + 5 ≤ 2561) (v1 : Int32) (v2 : Int32) (v3 : Int32) : wpX_serialIn (fun r => wpY_serialIn (fun r' => r' = r ∧ i_Rel (k + 5) u v) v v1 v2 v3) u v1 v2 v3 := by
  have J := i_up I
  by_cases hh : th_reg v1 v2 ∧ th_bit v3
  · obtain ⟨⟨t, r, ht, hr, rfl, rfl⟩, f, hf, rfl⟩ := hh
    obtain ⟨c, rm, m, p, R, G, F, S, YF, A, xn, tk, mk, rc, yn, yr, rfl, rfl, h⟩ := I
    have w := th_Rok h (i := 4 * t + r) (by omega)
    have hm := th_m h hk
    have hS := th_Sm h (R (4 * t + r))
    have z0 := th_S0 h (i := 4 * t + r) (by omega)
    have hF := h.2.1.2.2.1 (2 * R (4 * t + r) + f)
    refine xg_serialIn ht hr hf (by omega) (by omega) (fun z => ?_) (fun z => ?_)
    · exact yg_serialIn ht hr hf (by omega) (fun _ => ⟨rfl, J⟩) (fun y => absurd (z0.mpr z) y)
    · refine yg_serialIn ht hr hf (by omega) (fun y => absurd (z0.mp y) z) (fun y => ⟨?_, J⟩)
      rw [(th_Fok h (f := f) (w.2.2 z) hf).2.2.2]
  · exact xb_serialIn hh (yb_serialIn hh ⟨rfl, J⟩)
theorem i_vc_serialOf {k : Nat} {u : SX} {v : SY} (I : i_Rel k u v) (hk : k + 5 ≤ 2561) (v1 : Int32) : wpX_serialOf (fun r => wpY_serialOf (fun r' => r' = r ∧ i_Rel (k + 5) u v) v v1) u v1 := by
  have J := i_up I
  by_cases hh : th_bit v1
  · obtain ⟨g, hg, rfl⟩ := hh
    obtain ⟨c, rm, m, p, R, G, F, S, YF, A, xn, tk, mk, rc, yn, yr, rfl, rfl, h⟩ := I
    have w := th_Gok h (i := g) hg
    exact xg_serialOf hg (by omega) (yg_serialOf hg ⟨rfl, J⟩)
  · exact xb_serialOf hh (yb_serialOf hh ⟨rfl, J⟩)
theorem i_vc_made {k : Nat} {u : SX} {v : SY} (I : i_Rel k u v) (hk : k + 5 ≤ 2561) : wpX_made (fun r => wpY_made (fun r' => r' = r ∧ i_Rel (k + 5) u v) v) u := by
  have J := i_up I
  obtain ⟨c, rm, m, p, R, G, F, S, YF, A, xn, tk, mk, rc, yn, yr, rfl, rfl, h⟩ := I
  exact ⟨rfl, J⟩
theorem i_vc_live {k : Nat} {u : SX} {v : SY} (I : i_Rel k u v) (hk : k + 5 ≤ 2561) : wpX_live (fun r u' => wpY_live (fun r' v' => r' = r ∧ i_Rel (k + 5) u' v') v) u := by
  obtain ⟨c, rm, m, p, R, G, F, S, YF, A, xn, tk, mk, rc, yn, yr, rfl, rfl, h⟩ := I
  have hm := th_m h hk
  unfold wpX_live
  refine xw_mark h.1.2.1 h.2.1.2.2.1 h.2.1.2.1 h.2.1.1 (fun mk' rc' ls => ?_)
  dsimp only
  refine yw_live hm (fun i => th_Sm h _) (fun i => th_Sm h _) h.2.2.2.2.2.1 (fun a la => ⟨?_, th_rel (th_up1 h (by omega))⟩)
  rw [th_bridge h ls la]
theorem i_vc_make {k : Nat} {u : SX} {v : SY} (I : i_Rel k u v) (hk : k + 5 ≤ 2561) (v1 : Int32) (v2 : Int32) (v3 : Int32) : wpX_make (fun r u' => wpY_make (fun r' v' => r' = r ∧ i_Rel (k + 5) u' v') v v1 v2 v3) u v1 v2 v3 := by
  by_cases hh : th_reg v1 v2
  · obtain ⟨t, r, ht, hr, rfl, rfl⟩ := hh
    obtain ⟨c, rm, m, p, R, G, F, S, YF, A, xn, tk, mk, rc, yn, yr, rfl, rfl, h⟩ := I
    have hm := th_m h hk
    refine xg_make ht hr h (fun p' A' tk' mk' rc' c' h' full => ?_) (fun s p' A' tk' mk' rc' c' h' s1 s2 s3 => ?_)
    · obtain ⟨mk0, l0, e0⟩ := full
      refine yg_make ht hr h.1.2.1 hm (fun i => th_Sm h _) (fun i => th_Sm h _) h.2.2.2.2.2.1 (fun a la ge => ⟨rfl, th_rel (th_up1 h' (by omega))⟩) (fun a la lt => ?_)
      have := th_bridge h' l0 la
      omega
    · obtain ⟨mk0, l0⟩ := th_has R G F rm h.2.1.1 h.2.1.2.1 h.2.1.2.2.1
      have lt0 := th_room h' l0 s1 s2 s3
      have nr := th_nR h' s1 s3
      refine yg_make ht hr h.1.2.1 hm (fun i => th_Sm h _) (fun i => th_Sm h _) h.2.2.2.2.2.1 (fun a la ge => ?_) (fun a la lt => ⟨rfl, ?_⟩)
      · have := th_bridge h' l0 la
        omega
      · rw [th_newR nr.1, th_newG (m := m) nr.2]
        exact th_rel (th_new h' s1 s2 s3 (by omega) (by decide) (by omega))
  · exact xb_make hh (yb_make hh ⟨rfl, i_up I⟩)
theorem i_vc_pause {k : Nat} {u : SX} {v : SY} (I : i_Rel k u v) (hk : k + 5 ≤ 2561) (v1 : Int32) : wpX_pause (fun r => wpY_pause (fun r' => r' = r ∧ i_Rel (k + 5) u v) v v1) u v1 := by
  have J := i_up I
  unfold wpX_pause wpX_isThread
  obtain ⟨c, rm, m, p, R, G, F, S, YF, A, xn, tk, mk, rc, yn, yr, rfl, rfl, h⟩ := I
  dsimp only
  unfold wpY_pause
  dsimp only
  refine br_c (fun h0 => br_t rfl (br_t h0 ⟨rfl, J⟩)) (fun h0 => br_c (fun h1 => br_t rfl (br_f h0 (br_f (fun z => ?_) ⟨rfl, J⟩))) (fun h1 => br_f (by decide) (br_f h0 (br_t ?_ ⟨rfl, J⟩))))
  · exact absurd (Int32.le_trans h1 z) (by decide)
  · obtain ⟨j, hj, rfl⟩ := th_of (n := 3) (by decide) h0 h1
    exact nI_le (b := 2) (by omega) (by decide)
theorem i_vc_rest {k : Nat} {u : SX} {v : SY} (I : i_Rel k u v) (hk : k + 5 ≤ 2561) (v1 : Int32) : wpX_rest (fun u' => wpY_rest (fun v' => i_Rel (k + 5) u' v') v v1) u v1 := by
  obtain ⟨c, rm, m, p, R, G, F, S, YF, A, xn, tk, mk, rc, yn, yr, rfl, rfl, h⟩ := I
  exact xg_rest h (fun p' A' tk' mk' rc' c' h' => th_rel (th_up1 h' (by omega)))
theorem i_vc0 (k0 : Int32) : wpX_init (fun u => wpY_init (fun v => i_Rel 1 u v) k0) k0 := by
  have go : ∀ rm : Nat, 4 ≤ rm → rm ≤ 16 → i_Rel 1 (0, nI rm, 0, 0, (fun _ => 0), (fun _ => 0), (fun _ => 0), (fun _ => 0), (fun _ => 0), (fun _ => 0), (fun _ => 0), (fun _ => 0)) (0, nI rm, (fun _ => 0), (fun _ => 0), (fun _ => 0), (fun _ => 0), (fun _ => 0)) :=
    fun rm h4 h16 => ⟨0, rm, 0, 0, fun _ => 0, fun _ => 0, fun _ => 0, fun _ => 0, fun _ => 0, fun _ => False, fun _ => 0, fun _ => 0, fun _ => 0, fun _ => 0, fun _ => 0, fun _ => 0, rfl, rfl, th_init h4 h16⟩
  unfold wpX_init wpY_init
  refine br_c (fun h1 => br_c (fun h2 => br_t h1 (br_t h2 ?_)) (fun h2 => br_t h1 (br_f h2 (go 16 (by omega) (by omega))))) (fun h1 => br_f h1 (go 4 (by omega) (by omega)))
  obtain ⟨j, hj, rfl⟩ := nI_of2 (x := k0) (M := 16) (n := 16) (by decide) (fun z => Int32.not_lt.mpr h1 (Int32.lt_trans z (by decide))) h2
  have h4 : 4 ≤ j := (nI_leI (a := 4) (b := j) (by decide) (by omega)).mp h1
  exact go j h4 hj
end
