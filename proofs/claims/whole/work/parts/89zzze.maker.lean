/-! ===== a maker more: on both sides ===== -/
section MKR
variable {e : yE} {d : Nat} {D M : xM} {f s : Int → Int}
/-- the sizes can be settled -/
theorem sol_ex (h8 : D 59 1 ≤ 8) (ho : okM D) : ∀ (n : Nat) (f : Int → Int), szI D f → msF f 7 ≤ (n : Int) → ∃ s, szI D s ∧ solL D s := by
  intro n
  induction n with
  | zero =>
    intro f hI hm
    refine ⟨f, hI, fun t t0 t1 k k0 k1 hp => ?_⟩
    refine Classical.byContradiction (fun z => ?_)
    have ft := hI.2.1 t (by omega) (by omega)
    have u := szI_up (f := f) (f' := fun u => if u = t then mz D f t k else f u) h8 ho hI t0 t1 k0 k1 rfl hp (by omega) (if_pos rfl) (fun u hu => if_neg hu)
    have w := szI_b u.1
    have := (msF_nn (f := fun u => if u = t then mz D f t k else f u) (fun v v0 v1 => by have := w v v0 v1; omega) 7 (by decide)).1
    omega
  | succ n ih =>
    intro f hI hm
    by_cases hL : solL D f
    · exact ⟨f, hI, hL⟩
    · have : ∃ t k, (0 < t ∧ t < D 59 1) ∧ (0 ≤ k ∧ k < D 60 t) ∧ 0 < mz D f t k ∧ ¬ (0 < f t ∧ f t ≤ mz D f t k) := by
        refine Classical.byContradiction (fun z => hL (fun t t0 t1 k k0 k1 hp => Classical.byContradiction (fun y => z ⟨t, k, ⟨t0, t1⟩, ⟨k0, k1⟩, hp, y⟩)))
      obtain ⟨t, k, ⟨t0, t1⟩, ⟨k0, k1⟩, hp, hy⟩ := this
      have ft := hI.2.1 t (by omega) (by omega)
      have u := szI_up (f := f) (f' := fun u => if u = t then mz D f t k else f u) h8 ho hI t0 t1 k0 k1 rfl hp (by omega) (if_pos rfl) (fun u hu => if_neg hu)
      exact ih _ u.1 (by omega)
/-- in one way only -/
theorem sol_eq (h8 : D 59 1 ≤ 8) (ho : okM D) (hf : szI D f) (hfL : solL D f) (hs : szI D s) (hsL : solL D s) : ∀ u, 0 ≤ u → u < 8 → f u = s u := by
  intro u u0 u1
  by_cases y : u < D 59 1
  · have f0 := hf.2.1 u u0 u1
    have s0 := hs.2.1 u u0 u1
    have a := sol_le ho hf.2.1 h8 hf.1 hs.1 hf.2.2.2.1 hsL (f u).toNat u u0 y
    have b := sol_le ho hs.2.1 h8 hs.1 hf.1 hs.2.2.2.1 hfL (s u).toNat u u0 y
    by_cases z : 0 < f u
    · have := a z (by omega)
      have := b (by omega) (by omega)
      omega
    · by_cases w : 0 < s u
      · have := b w (by omega); omega
      · omega
  · rw [hf.2.2.2.2 u (by omega) u1, hs.2.2.2.2 u (by omega) u1]
theorem fm_fst {t q : Int} : ∀ (n : Nat) (k : Int), (∀ j, k ≤ j → j < q → mSz D t j ≠ D 63 t) → mSz D t q = D 63 t → k ≤ q → q < k + n → fm D t n k = q := by
  intro n
  induction n with
  | zero => intro k _ _ h1 h2; omega
  | succ n ih =>
    intro k g hq h1 h2
    show (if mSz D t k = D 63 t then k else fm D t n (k + 1)) = q
    by_cases z : k = q
    · rw [z, if_pos hq]
    · rw [if_neg (g k (Int.le_refl _) (by omega))]
      exact ih (k + 1) (fun j j0 j1 => g j (by omega) j1) hq (by omega) (by omega)
end MKR
