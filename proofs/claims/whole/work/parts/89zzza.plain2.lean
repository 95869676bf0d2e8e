/-! ===== plain values: how large, how often ===== -/
/-- how much is still to be done at most -/
def msF (f : Int → Int) : Nat → Int
  | 0 => 0
  | n + 1 => msF f n + (if f ((n : Int) + 1) = 0 then 4000 else f ((n : Int) + 1))
section PLM
variable {D : xM} {f f' : Int → Int} {t y : Int}
theorem Bq_mono : ∀ {a b : Nat}, a ≤ b → Bq a ≤ Bq b ∧ 1 ≤ Bq a := by
  intro a b h
  have p : ∀ n, 1 ≤ Bq n := by
    intro n
    induction n with
    | zero => exact Int.le_refl _
    | succ n ih => show 1 ≤ 1 + 3 * Bq n; omega
  refine ⟨?_, p a⟩
  induction b with
  | zero => rw [show a = 0 by omega]; exact Int.le_refl _
  | succ b ih =>
    by_cases z : a = b + 1
    · rw [z]; exact Int.le_refl _
    · have := ih (by omega)
      have := p b
      show Bq a ≤ 1 + 3 * Bq b
      omega
theorem cpF_le : ∀ n, cpF f n ≤ n := by
  intro n
  induction n with
  | zero => exact Nat.le_refl _
  | succ n ih =>
    show cpF f n + (if 0 < f ((n : Int) + 1) then 1 else 0) ≤ n + 1
    split <;> omega
/-- one size comes, or gets smaller -/
theorem cpF_up (h1 : f' t = y) (h2 : ∀ u, u ≠ t → f' u = f u) (hy : 0 < y) : ∀ n : Nat, cpF f' n = cpF f n + (if 0 < t ∧ t ≤ (n : Int) ∧ ¬ 0 < f t then 1 else 0) := by
  intro n
  induction n with
  | zero => show 0 = 0 + _; rw [if_neg (by omega)]
  | succ n ih =>
    show cpF f' n + (if 0 < f' ((n : Int) + 1) then 1 else 0) = cpF f n + (if 0 < f ((n : Int) + 1) then 1 else 0) + _
    rw [ih]
    by_cases z : t = (n : Int) + 1
    · rw [← z, h1, if_pos hy, if_neg (show ¬ (0 < t ∧ t ≤ (n : Int) ∧ ¬ 0 < f t) by omega)]
      by_cases w : 0 < f t
      · rw [if_pos w, if_neg (fun u => u.2.2 w)]
      · rw [if_neg w, if_pos ⟨by omega, by omega, w⟩]
    · rw [h2 _ (fun u => z u.symm)]
      by_cases w : 0 < t ∧ t ≤ (n : Int) ∧ ¬ 0 < f t
      · rw [if_pos w, if_pos (show 0 < t ∧ t ≤ ((n + 1 : Nat) : Int) ∧ ¬ 0 < f t from ⟨w.1, by omega, w.2.2⟩)]; omega
      · rw [if_neg w, if_neg (show ¬ (0 < t ∧ t ≤ ((n + 1 : Nat) : Int) ∧ ¬ 0 < f t) from fun u => w ⟨u.1, by omega, u.2.2⟩)]; omega
theorem msF_up (h1 : f' t = y) (h2 : ∀ u, u ≠ t → f' u = f u) (hy : 0 < y) : ∀ n : Nat, msF f' n = msF f n + (if 0 < t ∧ t ≤ (n : Int) then y - (if f t = 0 then 4000 else f t) else 0) := by
  intro n
  induction n with
  | zero => show (0 : Int) = 0 + _; rw [if_neg (by omega)]; rfl
  | succ n ih =>
    show msF f' n + (if f' ((n : Int) + 1) = 0 then 4000 else f' ((n : Int) + 1)) = msF f n + (if f ((n : Int) + 1) = 0 then 4000 else f ((n : Int) + 1)) + _
    rw [ih]
    by_cases z : t = (n : Int) + 1
    · rw [← z, h1, if_neg (show ¬ y = 0 by omega), if_neg (show ¬ (0 < t ∧ t ≤ (n : Int)) by omega), if_pos (show 0 < t ∧ t ≤ ((n + 1 : Nat) : Int) by omega)]; omega
    · rw [h2 _ (fun u => z u.symm)]
      by_cases w : 0 < t ∧ t ≤ (n : Int)
      · rw [if_pos w, if_pos (show 0 < t ∧ t ≤ ((n + 1 : Nat) : Int) by omega)]; omega
      · rw [if_neg w, if_neg (show ¬ (0 < t ∧ t ≤ ((n + 1 : Nat) : Int)) by omega)]; omega
theorem msF_nn (h : ∀ u, 0 ≤ u → u < 8 → 0 ≤ f u ∧ f u ≤ 4000) : ∀ n : Nat, n ≤ 7 → 0 ≤ msF f n ∧ msF f n ≤ 4000 * n := by
  intro n
  induction n with
  | zero => intro _; exact ⟨Int.le_refl _, Int.le_refl _⟩
  | succ n ih =>
    intro hn
    have := ih (by omega)
    have := h ((n : Int) + 1) (by omega) (by omega)
    show 0 ≤ msF f n + (if f ((n : Int) + 1) = 0 then 4000 else f ((n : Int) + 1)) ∧ msF f n + (if f ((n : Int) + 1) = 0 then 4000 else f ((n : Int) + 1)) ≤ 4000 * ((n + 1 : Nat) : Int)
    split <;> omega
/-- the sizes so far -/
def szI (D : xM) (f : Int → Int) : Prop := f 0 = 1 ∧ nnF f ∧ (∀ u, 0 ≤ u → u < 8 → f u ≤ Bq (cpF f 7)) ∧ solR D f ∧ ∀ u, D 59 1 ≤ u → u < 8 → f u = 0
theorem szI_b (h : szI D f) : ∀ u, 0 ≤ u → u < 8 → 0 ≤ f u ∧ f u ≤ 3280 := fun u u0 u1 => by
  have := h.2.2.1 u u0 u1
  have := (Bq_mono (cpF_le (f := f) 7)).1
  have : Bq 7 = 3280 := by decide
  exact ⟨h.2.1 u u0 u1, by omega⟩
theorem mz_b {k B : Int} (hn : 0 ≤ D 61 (6 * t + k) ∧ D 61 (6 * t + k) ≤ 3) (h : ∀ j, 0 ≤ j → j < D 61 (6 * t + k) → 0 ≤ f (D 62 (3 * (6 * t + k) + j)) ∧ f (D 62 (3 * (6 * t + k) + j)) ≤ B) (hB : 0 ≤ B) : 0 ≤ mz D f t k ∧ mz D f t k ≤ 1 + 3 * B := by
  unfold mz
  split
  · omega
  · have p0 := h 0 (by omega)
    have p1 := h 1 (by omega)
    have p2 := h 2 (by omega)
    unfold sm3
    have : D 61 (6 * t + k) = 0 ∨ D 61 (6 * t + k) = 1 ∨ D 61 (6 * t + k) = 2 ∨ D 61 (6 * t + k) = 3 := by omega
    rcases this with z | z | z | z <;> rw [z] at p0 p1 p2 ⊢
    · rw [if_neg (by omega), if_neg (by omega), if_neg (by omega)]; omega
    · rw [if_pos (by omega), if_neg (by omega), if_neg (by omega)]; have := p0 (by omega); omega
    · rw [if_pos (by omega), if_pos (by omega), if_neg (by omega)]; have := p0 (by omega); have := p1 (by omega); omega
    · rw [if_pos (by omega), if_pos (by omega), if_pos (by omega)]; have := p0 (by omega); have := p1 (by omega); have := p2 (by omega); omega
/-- a better size is taken -/
theorem szI_up {k : Int} (h8 : D 59 1 ≤ 8) (ho : okM D) (hI : szI D f) (t0 : 0 < t) (t1 : t < D 59 1) (k0 : 0 ≤ k) (k1 : k < D 60 t) (hy : y = mz D f t k) (hp : 0 < y) (hb : f t = 0 ∨ y < f t) (h1 : f' t = y) (h2 : ∀ u, u ≠ t → f' u = f u) : szI D f' ∧ msF f' 7 < msF f 7 := by
  have hbb := szI_b hI
  obtain ⟨i1, i2, i3, i4, i5⟩ := hI
  obtain ⟨n3, np⟩ := ho t k (by omega) t1 k0 k1
  have hft := hbb t (by omega) (by omega)
  have hyb : y ≤ 1 + 3 * Bq (cpF f 7) := by
    rw [hy]
    exact (mz_b n3 (fun j j0 j1 => ⟨i2 _ (np j j0 j1).1 (by have := (np j j0 j1).2; omega), i3 _ (np j j0 j1).1 (by have := (np j j0 j1).2; omega)⟩) (by have := (Bq_mono (Nat.le_refl (cpF f 7))).2; omega)).2
  have ec := cpF_up h1 h2 hp 7
  have em := msF_up h1 h2 hp 7
  have hle : ∀ v, 0 < f v → 0 < f' v ∧ f' v ≤ f v := fun v hv => by
    by_cases z : v = t
    · rw [z, h1]; rw [z] at hv; omega
    · rw [h2 v z]; omega
  refine ⟨⟨by rw [h2 0 (by omega)]; exact i1, fun u u0 u1 => ?_, fun u u0 u1 => ?_, fun u u0 u1 hu => ?_, fun u u0 u1 => by rw [h2 u (by omega)]; exact i5 u u0 u1⟩, ?_⟩
  · by_cases z : u = t
    · rw [z, h1]; omega
    · rw [h2 u z]; exact i2 u u0 u1
  · have hmB : Bq (cpF f 7) ≤ Bq (cpF f' 7) := (Bq_mono (by rw [ec]; omega)).1
    by_cases z : u = t
    · rw [z, h1]
      rcases hb with w | w
      · rw [ec, if_pos ⟨t0, by omega, by omega⟩]; exact hyb
      · have := i3 t (by omega) (by omega); omega
    · rw [h2 u z]; have := i3 u u0 u1; omega
  · have mono : ∀ q, 0 ≤ q → q < D 60 u → 0 < mz D f u q → 0 < mz D f' u q ∧ mz D f' u q ≤ mz D f u q := fun q q0 q1 hq => by
      obtain ⟨m3, mp⟩ := ho u q (by omega) u1 q0 q1
      have hin := mz_in m3 (fun j j0 j1 => i2 _ (mp j j0 j1).1 (by have := (mp j j0 j1).2; omega)) hq
      exact mz_mono m3 (fun j j0 j1 => ⟨hin j j0 j1, hle _ (hin j j0 j1)⟩)
    by_cases z : u = t
    · rw [z] at mono ⊢
      have := mono k k0 k1 (by rw [← hy]; exact hp)
      exact ⟨k, ⟨k0, k1⟩, this.1, by rw [h1, hy]; exact this.2⟩
    · rw [h2 u z] at hu ⊢
      obtain ⟨q, ⟨q0, q1⟩, m0, m1⟩ := i4 u u0 u1 hu
      have := mono q q0 q1 m0
      exact ⟨q, ⟨q0, q1⟩, this.1, by omega⟩
  · rw [em, if_pos ⟨t0, by omega⟩]
    have hB7 := (Bq_mono (cpF_le (f := f) 7)).1
    have : Bq 7 = 3280 := by decide
    rcases hb with w | w
    · rw [if_pos w]
      -- the first size of a type is below what one counts for none
      have : cpF f' 7 ≤ 7 := cpF_le 7
      rw [ec, if_pos ⟨t0, by omega, by omega⟩] at this
      have := (Bq_mono (show cpF f 7 + 1 ≤ 7 by omega)).1
      have e : Bq (cpF f 7 + 1) = 1 + 3 * Bq (cpF f 7) := rfl
      omega
    · rw [if_neg (by omega)]; omega
end PLM
