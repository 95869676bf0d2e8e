/-! ===== both sides answer alike: maker ===== -/
section OPK
variable {e : yE} {d : Nat} {M M0 M1 M2 D : xM} {cs cl : Nat}
/-- what stands is in order by more makers too -/
theorem szI_mk {t n : Int} {A : Int → Int} (hw : wfT M) (hx : rfX M) (h : rMk M D t n A) (ht : 0 < t ∧ t < M 59 1) (h6 : M 60 t < 6) : szI D (M 63) := by
  obtain ⟨g1, g2, g3, g4, g5, g6⟩ := h
  obtain ⟨⟨x1, x2, x3, x4⟩, -⟩ := hx
  have e1 := g2 1 (by decide)
  have h8 := hw.1
  refine ⟨x1, fun u u0 u1 => (x2 u u0 u1).1, fun u u0 u1 => (x2 u u0 u1).2.2, fun u u0 u1 hp => ?_, fun u u0 u1 => (x3 u (by rw [← e1]; exact u0) u1).2⟩
  rw [e1] at u1
  obtain ⟨k, ⟨k0, k1⟩, hk⟩ := (x4 u u0 u1).2 hp
  have hu6 := hw.2.1 u (by omega) (by omega)
  have ht6 := hw.2.1 t (by omega) (by omega)
  obtain ⟨n3, np⟩ := hw.2.2.2 u k (by omega) u1 k0 k1
  have em : mz D (M 63) u k = mz M (M 63) u k := by
    have e61 : D 61 (6 * u + k) = M 61 (6 * u + k) := g4.2 _ (by
      by_cases z : u = t
      · rw [z] at k1 ⊢; omega
      · omega)
    have e62 : ∀ j, 0 ≤ j → j < 3 → D 62 (3 * (6 * u + k) + j) = M 62 (3 * (6 * u + k) + j) := fun j j0 j1 => g6 _ (by
      by_cases z : u = t
      · rw [z] at k1 ⊢; omega
      · omega)
    unfold mz
    rw [e61, e62 0 (by omega) (by omega), e62 1 (by omega) (by omega), e62 2 (by omega) (by omega)]
  rw [mSz_mz n3] at hk
  refine ⟨k, ⟨k0, ?_⟩, by rw [em, hk]; exact hp, by rw [em, hk]; exact Int.le_refl _⟩
  by_cases z : u = t
  · rw [z] at k1 ⊢; rw [g3.1]; omega
  · rw [g3.2 u z]; exact k1
end OPK
