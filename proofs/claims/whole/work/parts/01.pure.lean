/-! counts, least closed sets, and the bridge between the two heaps -/
theorem th_us {f : Nat → Int32} {k : Nat} {x : Int32} : upd f k x k = x := by simp [upd]
theorem th_un {f : Nat → Int32} {k j : Nat} {x : Int32} (h : j ≠ k) : upd f k x j = f j := by simp [upd, h]
/-- an array of naturals with v at k -/
def th_up (f : Nat → Nat) (k v : Nat) : Nat → Nat := fun j => if j = k then v else f j
theorem th_ups {f : Nat → Nat} {k v : Nat} : th_up f k v k = v := by simp [th_up]
theorem th_upn {f : Nat → Nat} {k j v : Nat} (h : j ≠ k) : th_up f k v j = f j := by simp [th_up, h]
theorem th_upd {f : Nat → Nat} {k v : Nat} : upd (fun i => nI (f i)) k (nI v) = fun i => nI (th_up f k v i) := by
  funext j
  by_cases e : j = k
  · rw [e, th_us, th_ups]
  · rw [th_un e, th_upn e]
/-- the number of cells 1 .. n of an array that are not 0 -/
def th_cnt (a : Nat → Int32) : Nat → Nat
  | 0 => 0
  | n + 1 => th_cnt a n + (if a (n + 1) = 0 then 0 else 1)
theorem th_cnt_le (a : Nat → Int32) : ∀ n, th_cnt a n ≤ n := by
  intro n
  induction n with
  | zero => exact Nat.le_refl 0
  | succ n ih =>
    show th_cnt a n + (if a (n + 1) = 0 then 0 else 1) ≤ n + 1
    split <;> omega
theorem th_cnt_congr {a b : Nat → Int32} : ∀ {n : Nat}, (∀ s, 1 ≤ s → s ≤ n → (a s = 0 ↔ b s = 0)) → th_cnt a n = th_cnt b n := by
  intro n
  induction n with
  | zero => intro _; rfl
  | succ n ih =>
    intro h
    have e := ih (fun s h1 h2 => h s h1 (by omega))
    have hn := h (n + 1) (by omega) (by omega)
    show th_cnt a n + (if a (n + 1) = 0 then 0 else 1) = th_cnt b n + (if b (n + 1) = 0 then 0 else 1)
    rw [e]
    by_cases z : a (n + 1) = 0
    · rw [if_pos z, if_pos (hn.mp z)]
    · rw [if_neg z, if_neg (fun w => z (hn.mpr w))]
theorem th_cnt_0 {a : Nat → Int32} {n : Nat} (h : ∀ s, 1 ≤ s → s ≤ n → a s = 0) : th_cnt a n = 0 := by
  induction n with
  | zero => rfl
  | succ n ih =>
    show th_cnt a n + (if a (n + 1) = 0 then 0 else 1) = 0
    rw [ih (fun s h1 h2 => h s h1 (by omega)), if_pos (h (n + 1) (by omega) (by omega))]
theorem th_cnt_in {a : Nat → Int32} {k : Nat} {v : Int32} (hk : 1 ≤ k) (ha : a k = 0) (hv : v ≠ 0) : ∀ {n : Nat}, k ≤ n → th_cnt (upd a k v) n = th_cnt a n + 1 := by
  intro n
  induction n with
  | zero => intro h; omega
  | succ n ih =>
    intro h
    show th_cnt (upd a k v) n + (if upd a k v (n + 1) = 0 then 0 else 1) = th_cnt a n + (if a (n + 1) = 0 then 0 else 1) + 1
    by_cases e : k = n + 1
    · have h1 : th_cnt (upd a k v) n = th_cnt a n := th_cnt_congr (fun s _ h2 => by rw [th_un (by omega)])
      rw [h1, ← e, th_us, if_neg hv, if_pos ha]
    · rw [ih (by omega), th_un (fun z => e z.symm)]
      omega
theorem th_cnt_out {a : Nat → Int32} {k n : Nat} (hk : 1 ≤ k) (hn : k ≤ n) (ha : a k ≠ 0) : th_cnt (upd a k 0) n + 1 = th_cnt a n := by
  rw [← th_cnt_in (a := upd a k 0) (v := a k) hk th_us ha hn]
  refine th_cnt_congr (fun s _ _ => ?_)
  by_cases e : s = k
  · rw [e, th_us]
  · rw [th_un e, th_un e]
theorem th_cnt_mono {a b : Nat → Int32} : ∀ {n : Nat}, (∀ s, 1 ≤ s → s ≤ n → a s ≠ 0 → b s ≠ 0) → th_cnt a n ≤ th_cnt b n := by
  intro n
  induction n with
  | zero => intro _; exact Nat.le_refl 0
  | succ n ih =>
    intro h
    have e := ih (fun s h1 h2 => h s h1 (by omega))
    have hn := h (n + 1) (by omega) (by omega)
    show th_cnt a n + (if a (n + 1) = 0 then 0 else 1) ≤ th_cnt b n + (if b (n + 1) = 0 then 0 else 1)
    by_cases z : a (n + 1) = 0
    · rw [if_pos z]; omega
    · rw [if_neg z, if_neg (hn z)]; omega
theorem th_cnt_full {a : Nat → Int32} : ∀ {n : Nat}, (∀ s, 1 ≤ s → s ≤ n → a s ≠ 0) → th_cnt a n = n := by
  intro n
  induction n with
  | zero => intro _; rfl
  | succ n ih =>
    intro h
    show th_cnt a n + (if a (n + 1) = 0 then 0 else 1) = n + 1
    rw [ih (fun s h1 h2 => h s h1 (by omega)), if_neg (h (n + 1) (by omega) (by omega))]
theorem th_cnt_lt {a : Nat → Int32} {k n : Nat} (hk : 1 ≤ k) (hn : k ≤ n) (ha : a k = 0) : th_cnt a n < n := by
  have h := th_cnt_in (a := a) (v := 1) hk ha (by decide) hn
  have h2 := th_cnt_le (upd a k 1) n
  omega
theorem th_cnt_bij {a : Nat → Int32} {m : Nat} {S : Nat → Nat} : ∀ {n : Nat} {b : Nat → Int32},
    (∀ s, 1 ≤ s → s ≤ n → a s ≠ 0 → 1 ≤ S s ∧ S s ≤ m ∧ b (S s) ≠ 0) →
    (∀ s s', 1 ≤ s → s ≤ n → a s ≠ 0 → 1 ≤ s' → s' ≤ n → a s' ≠ 0 → S s = S s' → s = s') →
    (∀ i, 1 ≤ i → i ≤ m → b i ≠ 0 → ∃ s, 1 ≤ s ∧ s ≤ n ∧ a s ≠ 0 ∧ S s = i) → th_cnt a n = th_cnt b m := by
  intro n
  induction n with
  | zero =>
    intro b _ _ h3
    show 0 = th_cnt b m
    refine (th_cnt_0 (fun i h1 h2 => ?_)).symm
    by_cases z : b i = 0
    · exact z
    · obtain ⟨s, s1, s2, _⟩ := h3 i h1 h2 z
      omega
  | succ n ih =>
    intro b h1 h2 h3
    show th_cnt a n + (if a (n + 1) = 0 then 0 else 1) = th_cnt b m
    by_cases z : a (n + 1) = 0
    · rw [if_pos z, Nat.add_zero]
      refine ih (fun s p q => h1 s p (by omega)) (fun s s' p q r p' q' r' => h2 s s' p (by omega) r p' (by omega) r') (fun i p q r => ?_)
      obtain ⟨s, s1, s2, s3, s4⟩ := h3 i p q r
      refine ⟨s, s1, ?_, s3, s4⟩
      by_cases e : s = n + 1
      · rw [e] at s3; exact absurd z s3
      · omega
    · rw [if_neg z]
      obtain ⟨q1, q2, q3⟩ := h1 (n + 1) (by omega) (by omega) z
      rw [← th_cnt_out q1 q2 q3]
      refine congrArg (fun x => x + 1) (ih (fun s p q r => ?_) (fun s s' p q r p' q' r' => h2 s s' p (by omega) r p' (by omega) r') (fun i p q r => ?_))
      · obtain ⟨t1, t2, t3⟩ := h1 s p (by omega) r
        refine ⟨t1, t2, ?_⟩
        rw [th_un]
        · exact t3
        · intro e
          have := h2 s (n + 1) p (by omega) r (by omega) (by omega) z e
          omega
      · by_cases e : i = S (n + 1)
        · rw [e, th_us] at r; exact absurd rfl r
        · rw [th_un e] at r
          obtain ⟨s, s1, s2, s3, s4⟩ := h3 i p q r
          refine ⟨s, s1, ?_, s3, s4⟩
          by_cases e' : s = n + 1
          · rw [e'] at s4; exact absurd s4.symm e
          · omega
/-- P holds what the roots name, and what the fields of its members name -/
def th_cl (R G F : Nat → Nat) (P : Nat → Prop) : Prop :=
  (∀ i, i < 12 → R i ≠ 0 → P (R i)) ∧ (∀ g, g < 2 → G g ≠ 0 → P (G g)) ∧
  (∀ s, s ≠ 0 → P s → ∀ f, f < 2 → F (2 * s + f) ≠ 0 → P (F (2 * s + f)))
/-- the cells 1 .. n of a that are not 0 are the least such set -/
def th_lst (R G F : Nat → Nat) (a : Nat → Int32) (n : Nat) : Prop :=
  th_cl R G F (fun s => s ≤ n ∧ a s ≠ 0) ∧ ∀ P : Nat → Prop, th_cl R G F P → ∀ s, 1 ≤ s → s ≤ n → a s ≠ 0 → P s
/-- what a live slot is: a slot in use, tied to its object by the serial number -/
def th_obj (rm m : Nat) (F S YF : Nat → Nat) (xn tk yn : Nat → Int32) (s : Nat) : Prop :=
  1 ≤ s ∧ s ≤ rm ∧ tk s ≠ 0 ∧ 1 ≤ S s ∧ S s ≤ m ∧ yn (S s) = xn s ∧ ∀ f, f < 2 → YF (2 * S s + f) = S (F (2 * s + f))
/-- the invariant: A is a set of slots that holds every live one -/
def th_inv (k rm m p : Nat) (R G F S YF : Nat → Nat) (A : Nat → Prop) (xn tk yn : Nat → Int32) : Prop :=
  (4 ≤ rm ∧ rm ≤ 16 ∧ 5 * m + 1 ≤ k ∧ p ≤ rm) ∧
  ((∀ i, R i ≤ rm) ∧ (∀ i, G i ≤ rm) ∧ (∀ i, F i ≤ rm) ∧ (∀ i, 12 ≤ i → R i = 0) ∧ (∀ g, 2 ≤ g → G g = 0)) ∧
  (th_cl R G F A ∧ (∀ s, A s → th_obj rm m F S YF xn tk yn s) ∧ (∀ s s', A s → A s' → S s = S s' → s = s')) ∧
  (S 0 = 0 ∧ xn 0 = 0 ∧ (∀ j, YF j ≤ m) ∧ (∀ s, S s ≤ m))
theorem th_bridge {k rm m p : Nat} {R G F S YF : Nat → Nat} {A : Nat → Prop} {xn tk yn mk yr : Nat → Int32}
    (h : th_inv k rm m p R G F S YF A xn tk yn) (hX : th_lst R G F mk rm)
    (hY : th_lst (fun i => S (R i)) (fun g => S (G g)) YF yr m) : th_cnt mk rm = th_cnt yr m := by
  obtain ⟨_, _, ⟨hAc, hAo, hAi⟩, hS0, _⟩ := h
  have hMA : ∀ s, 1 ≤ s → s ≤ rm → mk s ≠ 0 → A s := hX.2 A hAc
  have hne : ∀ s, A s → S s ≠ 0 := fun s a => by have := (hAo s a).2.2.2.1; omega
  have h1 : ∀ s, 1 ≤ s → s ≤ rm → mk s ≠ 0 → A s ∧ yr (S s) ≠ 0 := by
    refine hX.2 (fun s => A s ∧ yr (S s) ≠ 0) ⟨fun i hi e => ?_, fun i hi e => ?_, fun s hs a f hf e => ?_⟩
    · have a := hAc.1 i hi e
      exact ⟨a, (hY.1.1 i hi (hne _ a)).2⟩
    · have a := hAc.2.1 i hi e
      exact ⟨a, (hY.1.2.1 i hi (hne _ a)).2⟩
    · have b := hAc.2.2 s hs a.1 f hf e
      have o := hAo s a.1
      have q := o.2.2.2.2.2.2 f hf
      have w := hY.1.2.2 (S s) (hne s a.1) ⟨o.2.2.2.2.1, a.2⟩ f hf (by rw [q]; exact hne _ b)
      rw [q] at w
      exact ⟨b, w.2⟩
  have hz : ∀ x, S x ≠ 0 → x ≠ 0 := fun x e z => e (by rw [z]; exact hS0)
  have h2 : ∀ i, 1 ≤ i → i ≤ m → yr i ≠ 0 → ∃ s, 1 ≤ s ∧ s ≤ rm ∧ mk s ≠ 0 ∧ S s = i := by
    refine hY.2 (fun i => ∃ s, 1 ≤ s ∧ s ≤ rm ∧ mk s ≠ 0 ∧ S s = i) ⟨fun i hi e => ?_, fun i hi e => ?_, fun i hi a f hf e => ?_⟩
    · have w := hX.1.1 i hi (hz _ e)
      exact ⟨R i, Nat.pos_of_ne_zero (hz _ e), w.1, w.2, rfl⟩
    · have w := hX.1.2.1 i hi (hz _ e)
      exact ⟨G i, Nat.pos_of_ne_zero (hz _ e), w.1, w.2, rfl⟩
    · obtain ⟨s, s1, s2, s3, rfl⟩ := a
      have q := (hAo s (hMA s s1 s2 s3)).2.2.2.2.2.2 f hf
      rw [q] at e
      have w := hX.1.2.2 s (by omega) ⟨s2, s3⟩ f hf (hz _ e)
      rw [q]
      exact ⟨F (2 * s + f), Nat.pos_of_ne_zero (hz _ e), w.1, w.2, rfl⟩
  refine th_cnt_bij (S := S) (fun s a b c => ?_) (fun s s' a b c a' b' c' e => ?_) h2
  · have w := h1 s a b c
    have o := hAo s w.1
    exact ⟨o.2.2.2.1, o.2.2.2.2.1, w.2⟩
  · exact hAi s s' (hMA s a b c) (hMA s' a' b' c') e
