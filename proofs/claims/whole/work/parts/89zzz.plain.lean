/-! ===== plain values: the sizes settle ===== -/
/-- the size of what a maker makes of the smallest parts, by the sizes f -/
def mz (D : xM) (f : Int → Int) (t k : Int) : Int := if (0 < D 61 (6 * t + k) ∧ f (D 62 (3 * (6 * t + k) + 0)) = 0) ∨ (1 < D 61 (6 * t + k) ∧ f (D 62 (3 * (6 * t + k) + 1)) = 0) ∨ (2 < D 61 (6 * t + k) ∧ f (D 62 (3 * (6 * t + k) + 2)) = 0) then 0 else 1 + sm3 f (D 61 (6 * t + k)) (D 62 (3 * (6 * t + k) + 0)) (D 62 (3 * (6 * t + k) + 1)) (D 62 (3 * (6 * t + k) + 2))
section PLN
variable {D D' : xM} {f g : Int → Int} {t k : Int}
theorem mSz_mz (hn : 0 ≤ D 61 (6 * t + k) ∧ D 61 (6 * t + k) ≤ 3) : mSz D t k = mz D (D 63) t k := by
  unfold mSz mz sm3
  have : D 61 (6 * t + k) = 0 ∨ D 61 (6 * t + k) = 1 ∨ D 61 (6 * t + k) = 2 ∨ D 61 (6 * t + k) = 3 := by omega
  have b : ∀ n x j, mSl D (6 * t + k) (n + 1) x j = if D 63 (D 62 (3 * (6 * t + k) + j)) = 0 then 0 else mSl D (6 * t + k) n (x + D 63 (D 62 (3 * (6 * t + k) + j))) (j + 1) := fun _ _ _ => rfl
  have b0 : ∀ x j, mSl D (6 * t + k) 0 x j = x := fun _ _ => rfl
  rcases this with z | z | z | z
  · rw [z, if_neg (by omega), if_neg (by omega), if_neg (by omega), if_neg (by omega)]
    show mSl D (6 * t + k) 0 1 0 = _
    rw [b0]; rfl
  · rw [z]
    show mSl D (6 * t + k) 1 1 0 = _
    rw [b, b0]
    by_cases y0 : D 63 (D 62 (3 * (6 * t + k) + 0)) = 0
    · rw [if_pos y0, if_pos (Or.inl ⟨by omega, y0⟩)]
    · rw [if_neg y0, if_neg (by omega), if_pos (by omega), if_neg (by omega), if_neg (by omega)]; omega
  · rw [z]
    show mSl D (6 * t + k) 2 1 0 = _
    rw [b, b, b0, show (0 : Int) + 1 = 1 from rfl]
    by_cases y0 : D 63 (D 62 (3 * (6 * t + k) + 0)) = 0
    · rw [if_pos y0, if_pos (Or.inl ⟨by omega, y0⟩)]
    · rw [if_neg y0]
      by_cases y1 : D 63 (D 62 (3 * (6 * t + k) + 1)) = 0
      · rw [if_pos y1, if_pos (Or.inr (Or.inl ⟨by omega, y1⟩))]
      · rw [if_neg y1, if_neg (by omega), if_pos (by omega), if_pos (by omega), if_neg (by omega)]; omega
  · rw [z]
    show mSl D (6 * t + k) 3 1 0 = _
    rw [b, b, b, b0, show (0 : Int) + 1 = 1 from rfl, show (1 : Int) + 1 = 2 from rfl]
    by_cases y0 : D 63 (D 62 (3 * (6 * t + k) + 0)) = 0
    · rw [if_pos y0, if_pos (Or.inl ⟨by omega, y0⟩)]
    · rw [if_neg y0]
      by_cases y1 : D 63 (D 62 (3 * (6 * t + k) + 1)) = 0
      · rw [if_pos y1, if_pos (Or.inr (Or.inl ⟨by omega, y1⟩))]
      · rw [if_neg y1]
        by_cases y2 : D 63 (D 62 (3 * (6 * t + k) + 2)) = 0
        · rw [if_pos y2, if_pos (Or.inr (Or.inr ⟨by omega, y2⟩))]
        · rw [if_neg y2, if_neg (by omega), if_pos (by omega), if_pos (by omega), if_pos (by omega)]; omega
/-- makers as they should be -/
def okM (D : xM) : Prop := ∀ t k, 0 ≤ t → t < D 59 1 → 0 ≤ k → k < D 60 t → (0 ≤ D 61 (6 * t + k) ∧ D 61 (6 * t + k) ≤ 3) ∧ ∀ j, 0 ≤ j → j < D 61 (6 * t + k) → 0 ≤ D 62 (3 * (6 * t + k) + j) ∧ D 62 (3 * (6 * t + k) + j) < D 59 1
def nnF (f : Int → Int) : Prop := ∀ u, 0 ≤ u → u < 8 → 0 ≤ f u
/-- what is made of parts that are there -/
theorem mz_pos (hn : 0 ≤ D 61 (6 * t + k) ∧ D 61 (6 * t + k) ≤ 3) (h : ∀ j, 0 ≤ j → j < D 61 (6 * t + k) → 0 < f (D 62 (3 * (6 * t + k) + j))) : mz D f t k = 1 + sm3 f (D 61 (6 * t + k)) (D 62 (3 * (6 * t + k) + 0)) (D 62 (3 * (6 * t + k) + 1)) (D 62 (3 * (6 * t + k) + 2)) := by
  unfold mz
  rw [if_neg]
  rintro (⟨u, v⟩ | ⟨u, v⟩ | ⟨u, v⟩)
  · have := h 0 (by omega) u; omega
  · have := h 1 (by omega) u; omega
  · have := h 2 (by omega) u; omega
theorem mz_in (hn : 0 ≤ D 61 (6 * t + k) ∧ D 61 (6 * t + k) ≤ 3) (hf : ∀ j, 0 ≤ j → j < D 61 (6 * t + k) → 0 ≤ f (D 62 (3 * (6 * t + k) + j))) (h : 0 < mz D f t k) : ∀ j, 0 ≤ j → j < D 61 (6 * t + k) → 0 < f (D 62 (3 * (6 * t + k) + j)) := by
  intro j j0 j1
  have h0 := hf j j0 j1
  refine Classical.byContradiction (fun z => ?_)
  have z0 : f (D 62 (3 * (6 * t + k) + j)) = 0 := by omega
  unfold mz at h
  rw [if_pos] at h
  · omega
  · have : j = 0 ∨ j = 1 ∨ j = 2 := by omega
    rcases this with y | y | y
    · rw [y] at z0 j1; exact Or.inl ⟨j1, z0⟩
    · rw [y] at z0 j1; exact Or.inr (Or.inl ⟨j1, z0⟩)
    · rw [y] at z0 j1; exact Or.inr (Or.inr ⟨j1, z0⟩)
theorem mz_lt (hn : 0 ≤ D 61 (6 * t + k) ∧ D 61 (6 * t + k) ≤ 3) (h : ∀ j, 0 ≤ j → j < D 61 (6 * t + k) → 0 < f (D 62 (3 * (6 * t + k) + j))) : 1 ≤ mz D f t k ∧ ∀ j, 0 ≤ j → j < D 61 (6 * t + k) → f (D 62 (3 * (6 * t + k) + j)) < mz D f t k := by
  rw [mz_pos hn h]
  have p0 := h 0 (by omega)
  have p1 := h 1 (by omega)
  have p2 := h 2 (by omega)
  unfold sm3
  have : D 61 (6 * t + k) = 0 ∨ D 61 (6 * t + k) = 1 ∨ D 61 (6 * t + k) = 2 ∨ D 61 (6 * t + k) = 3 := by omega
  rcases this with z | z | z | z <;> rw [z] at p0 p1 p2 ⊢
  · rw [if_neg (by omega), if_neg (by omega), if_neg (by omega)]
    exact ⟨by omega, fun j j0 j1 => by omega⟩
  · rw [if_pos (by omega), if_neg (by omega), if_neg (by omega)]
    have := p0 (by omega)
    refine ⟨by omega, fun j j0 j1 => ?_⟩
    rw [show j = 0 by omega]; omega
  · rw [if_pos (by omega), if_pos (by omega), if_neg (by omega)]
    have := p0 (by omega)
    have := p1 (by omega)
    refine ⟨by omega, fun j j0 j1 => ?_⟩
    have : j = 0 ∨ j = 1 := by omega
    rcases this with y | y <;> rw [y] <;> omega
  · rw [if_pos (by omega), if_pos (by omega), if_pos (by omega)]
    have := p0 (by omega)
    have := p1 (by omega)
    have := p2 (by omega)
    refine ⟨by omega, fun j j0 j1 => ?_⟩
    have : j = 0 ∨ j = 1 ∨ j = 2 := by omega
    rcases this with y | y | y <;> rw [y] <;> omega
/-- smaller sizes of the parts, a smaller size -/
theorem mz_mono (hn : 0 ≤ D 61 (6 * t + k) ∧ D 61 (6 * t + k) ≤ 3) (h : ∀ j, 0 ≤ j → j < D 61 (6 * t + k) → 0 < f (D 62 (3 * (6 * t + k) + j)) ∧ 0 < g (D 62 (3 * (6 * t + k) + j)) ∧ g (D 62 (3 * (6 * t + k) + j)) ≤ f (D 62 (3 * (6 * t + k) + j))) : 0 < mz D g t k ∧ mz D g t k ≤ mz D f t k := by
  have a := mz_lt (f := g) hn (fun j j0 j1 => (h j j0 j1).2.1)
  refine ⟨by omega, ?_⟩
  rw [mz_pos hn (fun j j0 j1 => (h j j0 j1).1), mz_pos hn (fun j j0 j1 => (h j j0 j1).2.1)]
  have p0 := h 0 (by omega)
  have p1 := h 1 (by omega)
  have p2 := h 2 (by omega)
  unfold sm3
  have : D 61 (6 * t + k) = 0 ∨ D 61 (6 * t + k) = 1 ∨ D 61 (6 * t + k) = 2 ∨ D 61 (6 * t + k) = 3 := by omega
  rcases this with z | z | z | z <;> rw [z] at p0 p1 p2 ⊢
  · rw [if_neg (by omega), if_neg (by omega), if_neg (by omega), if_neg (by omega), if_neg (by omega), if_neg (by omega)]; exact Int.le_refl _
  · rw [if_pos (by omega), if_neg (by omega), if_neg (by omega), if_pos (by omega), if_neg (by omega), if_neg (by omega)]
    have := p0 (by omega); omega
  · rw [if_pos (by omega), if_pos (by omega), if_neg (by omega), if_pos (by omega), if_pos (by omega), if_neg (by omega)]
    have := p0 (by omega); have := p1 (by omega); omega
  · rw [if_pos (by omega), if_pos (by omega), if_pos (by omega), if_pos (by omega), if_pos (by omega), if_pos (by omega)]
    have := p0 (by omega); have := p1 (by omega); have := p2 (by omega); omega
/-- the sizes stand: each is the least, and some maker reaches it -/
def solL (D : xM) (f : Int → Int) : Prop := ∀ t, 0 < t → t < D 59 1 → ∀ k, 0 ≤ k → k < D 60 t → 0 < mz D f t k → 0 < f t ∧ f t ≤ mz D f t k
def solR (D : xM) (f : Int → Int) : Prop := ∀ t, 0 < t → t < D 59 1 → 0 < f t → ∃ k, (0 ≤ k ∧ k < D 60 t) ∧ 0 < mz D f t k ∧ mz D f t k ≤ f t
/-- what has a size by fewer makers has one by more, and no larger one -/
theorem sol_le (ho : okM D) (hf : nnF f) (h8 : D 59 1 ≤ 8) (f0 : f 0 = 1) (g0 : g 0 = 1) (hR : solR D f) (hL : ∀ t, 0 < t → t < D 59 1 → ∀ k, 0 ≤ k → k < D 60 t → 0 < mz D g t k → 0 < g t ∧ g t ≤ mz D g t k) : ∀ (n : Nat) (t : Int), 0 ≤ t → t < D 59 1 → 0 < f t → f t ≤ (n : Int) → 0 < g t ∧ g t ≤ f t := by
  intro n
  induction n with
  | zero => intro t _ _ h1 h2; omega
  | succ n ih =>
    intro t t0 t1 h1 h2
    by_cases z : t = 0
    · rw [z, f0, g0]; omega
    · obtain ⟨k, ⟨k0, k1⟩, m0, m1⟩ := hR t (by omega) t1 h1
      obtain ⟨n3, np⟩ := ho t k t0 t1 k0 k1
      have hp := mz_in n3 (fun j j0 j1 => hf _ (np j j0 j1).1 (by have := (np j j0 j1).2; omega)) m0
      have hl := (mz_lt n3 hp).2
      have hm := mz_mono (f := f) (g := g) n3 (fun j j0 j1 => by
        have := ih (D 62 (3 * (6 * t + k) + j)) (np j j0 j1).1 (np j j0 j1).2 (hp j j0 j1) (by have := hl j j0 j1; omega)
        exact ⟨hp j j0 j1, this.1, this.2⟩)
      have := hL t (by omega) t1 k k0 k1 hm.1
      omega
end PLN
