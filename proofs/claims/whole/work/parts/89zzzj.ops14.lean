/-! ===== both sides answer alike: maker, through ===== -/
section OPQ
variable {e : yE} {d : Nat} {M Ma D : xM} {f g : Int → Int}
theorem mz_cg {t k : Int} (hn : 0 ≤ D 61 (6 * t + k) ∧ D 61 (6 * t + k) ≤ 3) (eq : ∀ j, 0 ≤ j → j < D 61 (6 * t + k) → f (D 62 (3 * (6 * t + k) + j)) = g (D 62 (3 * (6 * t + k) + j))) : mz D f t k = mz D g t k := by
  unfold mz
  rw [sm3_c (g := g) (y0 := D 62 (3 * (6 * t + k) + 0)) (y1 := D 62 (3 * (6 * t + k) + 1)) (y2 := D 62 (3 * (6 * t + k) + 2)) (fun y => eq 0 (by omega) y) (fun y => eq 1 (by omega) y) (fun y => eq 2 (by omega) y)]
  have d0 : (0 < D 61 (6 * t + k) ∧ f (D 62 (3 * (6 * t + k) + 0)) = 0) ↔ (0 < D 61 (6 * t + k) ∧ g (D 62 (3 * (6 * t + k) + 0)) = 0) := ⟨fun y => ⟨y.1, by rw [← eq 0 (by omega) y.1]; exact y.2⟩, fun y => ⟨y.1, by rw [eq 0 (by omega) y.1]; exact y.2⟩⟩
  have d1 : (1 < D 61 (6 * t + k) ∧ f (D 62 (3 * (6 * t + k) + 1)) = 0) ↔ (1 < D 61 (6 * t + k) ∧ g (D 62 (3 * (6 * t + k) + 1)) = 0) := ⟨fun y => ⟨y.1, by rw [← eq 1 (by omega) y.1]; exact y.2⟩, fun y => ⟨y.1, by rw [eq 1 (by omega) y.1]; exact y.2⟩⟩
  have d2 : (2 < D 61 (6 * t + k) ∧ f (D 62 (3 * (6 * t + k) + 2)) = 0) ↔ (2 < D 61 (6 * t + k) ∧ g (D 62 (3 * (6 * t + k) + 2)) = 0) := ⟨fun y => ⟨y.1, by rw [← eq 2 (by omega) y.1]; exact y.2⟩, fun y => ⟨y.1, by rw [eq 2 (by omega) y.1]; exact y.2⟩⟩
  simp only [d0, d1, d2]
theorem szI_cg (h8 : D 59 1 ≤ 8) (ho : okM D) (h : ∀ u, 0 ≤ u → u < 8 → g u = f u) (hI : szI D f) : szI D g := by
  have hc : ∀ n : Nat, n ≤ 7 → cpF g n = cpF f n := by
    intro n
    induction n with
    | zero => intro _; rfl
    | succ n ih =>
      intro hn
      show cpF g n + (if 0 < g ((n : Int) + 1) then 1 else 0) = cpF f n + (if 0 < f ((n : Int) + 1) then 1 else 0)
      rw [ih (by omega), h _ (by omega) (by omega)]
  obtain ⟨i1, i2, i3, i4, i5⟩ := hI
  refine ⟨by rw [h 0 (by omega) (by omega)]; exact i1, fun u u0 u1 => by rw [h u u0 u1]; exact i2 u u0 u1, fun u u0 u1 => by rw [h u u0 u1, hc 7 (by omega)]; exact i3 u u0 u1, fun u u0 u1 hp => ?_, fun u u0 u1 => ?_⟩
  · rw [h u (by omega) (by omega)] at hp ⊢
    obtain ⟨k, ⟨k0, k1⟩, m0, m1⟩ := i4 u u0 u1 hp
    obtain ⟨n3, np⟩ := ho u k (by omega) u1 k0 k1
    have em : mz D g u k = mz D f u k := mz_cg n3 (fun j j0 j1 => h _ (np j j0 j1).1 (by have := (np j j0 j1).2; omega))
    exact ⟨k, ⟨k0, k1⟩, by rw [em]; exact m0, by rw [em]; exact m1⟩
  · by_cases z : 0 ≤ u
    · rw [h u z u1]; exact i5 u u0 u1
    · exfalso
      have := i5 0 (by omega) (by omega)
      omega
theorem tCl_mk {t n : Int} {A : Int → Int} (hwt : wfT M) (t3 : tCl M M) (ht : 0 < t ∧ t < M 59 1) (hn : 0 ≤ n ∧ n ≤ 3) (h6 : M 60 t < 6) (hC : aMk M Ma t n A) (hD0 : rMk M D t n A) : tCl Ma D := by
  obtain ⟨c1, c2, c3, c4, c5, c6⟩ := hC
  have h8 := hwt.1
  have t30 : M 3 t = M 60 t := t3.2.1 t (by omega) (by omega)
  rw [t30] at c3 c4 c5 c6
  have eT := hD0.2.1 1 (by decide)
  refine ⟨by rw [c2.2 0 (by decide), eT]; exact t3.1, fun u u0 u1 => ?_, fun u k u0 u1 k0 k1 => ?_⟩
  · by_cases z : u = t
    · rw [z, c3.1, hD0.2.2.1.1]
    · rw [c3.2 u z, hD0.2.2.1.2 u z]; exact t3.2.1 u u0 u1
  · rw [eT] at u1
    have hu6 := hwt.2.1 u u0 (by omega)
    have ht6 := hwt.2.1 t (by omega) (by omega)
    by_cases z : u = t ∧ k = M 60 t
    · rw [z.1, z.2, c4.1, hD0.2.2.2.1.1]
      refine ⟨rfl, fun j j0 j1 => ?_⟩
      rw [c5 j j0 j1, hD0.2.2.2.2.1 j j0 (by omega)]
    · have k1' : k < M 60 u := by
        by_cases y : u = t
        · rw [y, hD0.2.2.1.1] at k1
          have : ¬ k = M 60 t := fun w => z ⟨y, w⟩
          rw [y]; omega
        · rw [hD0.2.2.1.2 u y] at k1; exact k1
      have ne : ¬ (6 * u + k = 6 * t + M 60 t) := fun w => by
        by_cases y : u = t
        · exact z ⟨y, by omega⟩
        · omega
      obtain ⟨n3, np⟩ := hwt.2.2.2 u k u0 u1 k0 k1'
      obtain ⟨a1, a2⟩ := t3.2.2 u k u0 u1 k0 k1'
      rw [c4.2 _ (by omega), hD0.2.2.2.1.2 _ ne]
      refine ⟨a1, fun j j0 j1 => ?_⟩
      rw [c6 _ (by omega), hD0.2.2.2.2.2 _ (by omega)]; exact a2 j j0 j1
end OPQ
