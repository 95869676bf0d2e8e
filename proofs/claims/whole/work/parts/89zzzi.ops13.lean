/-! ===== both sides answer alike: maker, the relation ===== -/
section OPL
variable {e : yE} {d : Nat} {M M0 Ma Mb M2 D D0 : xM}
theorem rel_maker {t n : Int} {A s : Int → Int} (hR : Rel e M) (ht : 0 < t ∧ t < M 59 1) (hn : 0 ≤ n ∧ n ≤ 3) (h6 : M 60 t < 6) (hz : M 59 10 = 0 ∧ M 59 18 = 0 ∧ M 59 25 = 0) (hA : ∀ j, 0 ≤ j → j < n → 0 ≤ A j ∧ A j < M 59 1) (h0 : ∀ j, j ≠ 58 → M0 j = M j) (hC : aMk M0 Ma t n A) (hD0 : rMk M D0 t n A) (hS : szI D0 s) (hL : solL D0 s) (hb : ∀ c, c ≠ 6 → c ≠ 7 → Mb c = Ma c) (hb6 : ∀ u, 0 ≤ u → u < 8 → Mb 6 u = s u) (hb7 : Mb 7 0 = Ma 7 0) (hbf : ∀ u, 0 < u → u < D0 59 1 → 0 < s u → fst1 D0 s u (Mb 7 u)) (hD : rMk Mb D t n A) (hM2 : ∀ c, c ≠ 63 → M2 c = D c) (hI : szI D (M2 63)) (hL2 : solL D (M2 63)) : Rel e M2 ∧ M2 0 = M 0 := by
  obtain ⟨cs, cl, ⟨s1, s2, s3, s4, s5, s6, s7⟩, hr, hw, htl, hx, hro⟩ := hR
  obtain ⟨t1, t2, t3, t4, t5, t6, t7, t8⟩ := s4
  obtain ⟨hW, h20, hall, hVV, h9⟩ := hr
  have hwt := hW.2.1
  have h8 := hwt.1
  obtain ⟨c1, c2, c3, c4, c5, c6⟩ := hC
  -- cells
  have m60 : Mb 60 = M 60 := by rw [hb 60 (by decide) (by decide), c1 60 (by decide) (by decide) (by decide) (by decide), h0 60 (by decide)]
  have kb : ∀ j, j ≠ 2 → j ≠ 3 → j ≠ 4 → j ≠ 5 → j ≠ 6 → j ≠ 7 → j ≠ 58 → Mb j = M j := fun j y2 y3 y4 y5 y6 y7 y8 => by rw [hb j y6 y7, c1 j y2 y3 y4 y5, h0 j y8]
  have eq60 : D 60 = D0 60 := funext fun i => by
    by_cases z : i = t
    · rw [z, hD.2.2.1.1, hD0.2.2.1.1, m60]
    · rw [hD.2.2.1.2 i z, hD0.2.2.1.2 i z, m60]
  have eq61 : D 61 = D0 61 := funext fun i => by
    have a := hD.2.2.2.1
    rw [m60] at a
    by_cases z : i = 6 * t + M 60 t
    · rw [z, a.1, hD0.2.2.2.1.1]
    · rw [a.2 i z, hD0.2.2.2.1.2 i z, kb 61 (by decide) (by decide) (by decide) (by decide) (by decide) (by decide) (by decide)]
  have eq62 : D 62 = D0 62 := funext fun i => by
    have a := hD.2.2.2.2
    rw [m60] at a
    by_cases z : 3 * (6 * t + M 60 t) ≤ i ∧ i < 3 * (6 * t + M 60 t) + 3
    · obtain ⟨j, hj⟩ : ∃ j, j = i - 3 * (6 * t + M 60 t) := ⟨_, rfl⟩
      rw [show i = 3 * (6 * t + M 60 t) + j by omega, a.1 j (by omega) (by omega), hD0.2.2.2.2.1 j (by omega) (by omega)]
    · rw [a.2 i z, hD0.2.2.2.2.2 i z, kb 62 (by decide) (by decide) (by decide) (by decide) (by decide) (by decide) (by decide)]
  have m59 : Mb 59 = M 59 := kb 59 (by decide) (by decide) (by decide) (by decide) (by decide) (by decide) (by decide)
  have d59 : ∀ i, i ≠ 0 → M2 59 i = M 59 i := fun i hi => by rw [hM2 59 (by decide), hD.2.1 i hi, m59]
  have eT : D 59 1 = D0 59 1 := by rw [hD.2.1 1 (by decide), hD0.2.1 1 (by decide), m59]
  have eT' : D0 59 1 = M 59 1 := hD0.2.1 1 (by decide)
  have emz : ∀ f u k, mz D f u k = mz D0 f u k := fun f u k => by unfold mz; rw [eq61, eq62]
  have hS' : szI D s := by
    unfold szI solR at *
    simp only [emz]
    rw [eT, eq60]; exact hS
  have hL' : solL D s := by
    unfold solL at *
    simp only [emz]
    rw [eT, eq60]; exact hL
  have hwD0 : wfT D0 := wfT_mk hwt hD0 ht hn h6 hA
  have hoD : okM D := by
    have := hwD0.2.2.2
    unfold okM
    rw [eT, eq60, eq61, eq62]; exact this
  have es : ∀ u, 0 ≤ u → u < 8 → M2 63 u = s u := sol_eq (by rw [eT, eT']; exact h8.2) hoD hI hL2 hS' hL'
  have q60 : M2 60 = D0 60 := by rw [hM2 60 (by decide), eq60]
  have q61 : M2 61 = D0 61 := by rw [hM2 61 (by decide), eq61]
  have q62 : M2 62 = D0 62 := by rw [hM2 62 (by decide), eq62]
  have qT : M2 59 1 = M 59 1 := d59 1 (by decide)
  have K : ∀ j, (j < 59 ∨ 62 < j) → j ≠ 2 → j ≠ 3 → j ≠ 4 → j ≠ 5 → j ≠ 6 → j ≠ 7 → j ≠ 58 → j ≠ 63 → M2 j = M j := fun j y0 y2 y3 y4 y5 y6 y7 y8 y9 => by
    rw [hM2 j y9, hD.1 j (by omega) (by omega) (by omega) (by omega), kb j y2 y3 y4 y5 y6 y7 y8]
  have hwT2 : wfT M2 := by
    have := hwD0
    unfold wfT at this ⊢
    rw [q60, q61, q62, qT, ← eT']; exact this
  have z10 : M2 59 10 = 0 := by rw [d59 10 (by decide)]; exact hz.1
  have z18 : M2 59 18 = 0 := by rw [d59 18 (by decide)]; exact hz.2.1
  have z25 : M2 59 25 = 0 := by rw [d59 25 (by decide)]; exact hz.2.2
  have noP : ∀ p, ¬ isP M2 p := fun p hp => by have := hp.1; have := hp.2; omega
  have cl' : ∀ j, j < 59 → j ≠ 6 → j ≠ 7 → M2 j = Ma j := fun j y0 y6 y7 => by rw [hM2 j (by omega), hD.1 j (by omega) (by omega) (by omega) (by omega), hb j y6 y7]
  have cl6 : M2 6 = Mb 6 := by rw [hM2 6 (by decide), hD.1 6 (by decide) (by decide) (by decide) (by decide)]
  have cl7 : M2 7 = Mb 7 := by rw [hM2 7 (by decide), hD.1 7 (by decide) (by decide) (by decide) (by decide)]
  have e3 : M0 3 = M 3 := h0 3 (by decide)
  have e4 : M0 4 = M 4 := h0 4 (by decide)
  have e5 : M0 5 = M 5 := h0 5 (by decide)
  have e2 : M0 2 = M 2 := h0 2 (by decide)
  rw [e3] at c3 c4 c5 c6
  rw [e4] at c4
  rw [e5] at c6
  rw [e2] at c2
  have t30 : M 3 t = M 60 t := t3.2.1 t (by omega) (by omega)
  rw [t30] at c3 c4 c5 c6
  have hsz : ∀ u k, 0 ≤ u → u < M 59 1 → 0 ≤ k → k < D0 60 u → mSz M2 u k = mz D0 (M2 63) u k := fun u k u0 u1 k0 k1 => by
    have n3 := (hwD0.2.2.2 u k u0 (by rw [eT']; exact u1) k0 k1).1
    rw [mSz_mz (by rw [q61]; exact n3)]
    unfold mz; rw [q61, q62]
  have mzs : ∀ u k, 0 ≤ u → u < M 59 1 → 0 ≤ k → k < D0 60 u → mz D0 (M2 63) u k = mz D0 s u k := fun u k u0 u1 k0 k1 => by
    obtain ⟨n3, np⟩ := hwD0.2.2.2 u k u0 (by rw [eT']; exact u1) k0 k1
    have eq : ∀ j, 0 ≤ j → j < D0 61 (6 * u + k) → M2 63 (D0 62 (3 * (6 * u + k) + j)) = s (D0 62 (3 * (6 * u + k) + j)) := fun j j0 j1 => es _ (np j j0 j1).1 (by have := (np j j0 j1).2; omega)
    unfold mz
    rw [sm3_c (g := s) (y0 := D0 62 (3 * (6 * u + k) + 0)) (y1 := D0 62 (3 * (6 * u + k) + 1)) (y2 := D0 62 (3 * (6 * u + k) + 2)) (fun y => eq 0 (by omega) y) (fun y => eq 1 (by omega) y) (fun y => eq 2 (by omega) y)]
    have d0 : (0 < D0 61 (6 * u + k) ∧ M2 63 (D0 62 (3 * (6 * u + k) + 0)) = 0) ↔ (0 < D0 61 (6 * u + k) ∧ s (D0 62 (3 * (6 * u + k) + 0)) = 0) := ⟨fun y => ⟨y.1, by rw [← eq 0 (by omega) y.1]; exact y.2⟩, fun y => ⟨y.1, by rw [eq 0 (by omega) y.1]; exact y.2⟩⟩
    have d1 : (1 < D0 61 (6 * u + k) ∧ M2 63 (D0 62 (3 * (6 * u + k) + 1)) = 0) ↔ (1 < D0 61 (6 * u + k) ∧ s (D0 62 (3 * (6 * u + k) + 1)) = 0) := ⟨fun y => ⟨y.1, by rw [← eq 1 (by omega) y.1]; exact y.2⟩, fun y => ⟨y.1, by rw [eq 1 (by omega) y.1]; exact y.2⟩⟩
    have d2 : (2 < D0 61 (6 * u + k) ∧ M2 63 (D0 62 (3 * (6 * u + k) + 2)) = 0) ↔ (2 < D0 61 (6 * u + k) ∧ s (D0 62 (3 * (6 * u + k) + 2)) = 0) := ⟨fun y => ⟨y.1, by rw [← eq 2 (by omega) y.1]; exact y.2⟩, fun y => ⟨y.1, by rw [eq 2 (by omega) y.1]; exact y.2⟩⟩
    simp only [d0, d1, d2]
  have hw60 := hwD0.2.1
  have hst2 : stc M2 M2 := by
    refine ⟨fun p hp => absurd hp (noP p), fun p hp => absurd hp (noP p), ⟨?_, fun u u0 u1 => ?_, fun u k u0 u1 k0 k1 => ?_⟩, fun v v0 v1 => by omega, ⟨?_, fun v v0 v1 => by omega⟩, ?_, ⟨⟨?_, fun v v0 v1 => by omega⟩, ?_, ?_, fun p hp => absurd hp (noP p)⟩, fun u u0 u1 => ?_, ?_, fun u u0 u1 hp => ?_, ?_⟩
    · rw [cl' 2 (by decide) (by decide) (by decide), c2.2 0 (by decide), qT]; exact t3.1
    · rw [cl' 3 (by decide) (by decide) (by decide), q60]
      by_cases z : u = t
      · rw [z, c3.1, hD0.2.2.1.1]
      · rw [c3.2 u z, hD0.2.2.1.2 u z]; exact t3.2.1 u u0 u1
    · rw [qT] at u1
      rw [q60] at k1
      rw [cl' 4 (by decide) (by decide) (by decide), cl' 5 (by decide) (by decide) (by decide), q61, q62]
      have hu6 := hwt.2.1 u u0 (by omega)
      have ht6 := hwt.2.1 t (by omega) (by omega)
      by_cases z : u = t ∧ k = M 60 t
      · rw [z.1, z.2, c4.1, hD0.2.2.2.1.1]
        refine ⟨rfl, fun j j0 j1 => ?_⟩
        rw [c5 j j0 j1, hD0.2.2.2.2.1 j j0 (by omega)]
      · have k1' : k < M 60 u := by
          by_cases y : u = t
          · rw [y, hD0.2.2.1.1] at k1
            have : ¬ k = M 60 t := fun w => z ⟨y, w⟩
            rw [y]; omega
          · rw [hD0.2.2.1.2 u y] at k1; exact k1
        have ne : ¬ (6 * u + k = 6 * t + M 60 t) := fun w => by
          by_cases y : u = t
          · exact z ⟨y, by omega⟩
          · omega
        obtain ⟨n3, np⟩ := hwt.2.2.2 u k u0 u1 k0 k1'
        obtain ⟨a1, a2⟩ := t3.2.2 u k u0 u1 k0 k1'
        rw [c4.2 _ (by omega), hD0.2.2.2.1.2 _ ne]
        refine ⟨a1, fun j j0 j1 => ?_⟩
        rw [c6 _ (by omega), hD0.2.2.2.2.2 _ (by omega)]; exact a2 j j0 j1
    · rw [K 8 (by omega) (by decide) (by decide) (by decide) (by decide) (by decide) (by decide) (by decide) (by decide), z10, t5.1]; exact hz.1
    · rw [K 1 (by omega) (by decide) (by decide) (by decide) (by decide) (by decide) (by decide) (by decide) (by decide), z25, t6]; exact hz.2.2
    · rw [K 8 (by omega) (by decide) (by decide) (by decide) (by decide) (by decide) (by decide) (by decide) (by decide)]; exact t7.1.1
    · rw [K 18 (by omega) (by decide) (by decide) (by decide) (by decide) (by decide) (by decide) (by decide) (by decide)]; exact t7.2.1
    · rw [K 18 (by omega) (by decide) (by decide) (by decide) (by decide) (by decide) (by decide) (by decide) (by decide), z18, t7.2.2.1]; exact hz.2.1
    · rw [cl6, hb6 u u0 u1, es u u0 u1]
    · rw [cl7, hb7, c1 7 (by decide) (by decide) (by decide) (by decide), h0 7 (by decide)]; exact t8.2.1
    · rw [qT] at u1
      rw [es u (by omega) (by omega)] at hp
      obtain ⟨⟨f0, f1⟩, f2, f3⟩ := hbf u u0 (by rw [eT']; exact u1) hp
      have b6 := hw60 u (by omega) (by omega)
      rw [cl7]
      refine (fm_fst 6 0 (fun j j0 j1 => ?_) ?_ f0 (by omega)).symm
      · rw [hsz u j (by omega) u1 j0 (by omega), mzs u j (by omega) u1 j0 (by omega), es u (by omega) (by omega)]; exact f3 j j0 j1
      · rw [hsz u _ (by omega) u1 f0 f1, mzs u _ (by omega) u1 f0 f1, es u (by omega) (by omega)]; exact f2
    · rw [cl' 2 (by decide) (by decide) (by decide), c2.1, q60, t8.2.2.2]
      have b := hD0.2.2.1
      have : t = 1 ∨ t = 2 ∨ t = 3 ∨ t = 4 ∨ t = 5 ∨ t = 6 ∨ t = 7 := by omega
      rcases this with y | y | y | y | y | y | y
      · subst y; rw [b.1, b.2 0 (by decide), b.2 2 (by decide), b.2 3 (by decide), b.2 4 (by decide), b.2 5 (by decide), b.2 6 (by decide), b.2 7 (by decide)]; omega
      · subst y; rw [b.1, b.2 0 (by decide), b.2 1 (by decide), b.2 3 (by decide), b.2 4 (by decide), b.2 5 (by decide), b.2 6 (by decide), b.2 7 (by decide)]; omega
      · subst y; rw [b.1, b.2 0 (by decide), b.2 1 (by decide), b.2 2 (by decide), b.2 4 (by decide), b.2 5 (by decide), b.2 6 (by decide), b.2 7 (by decide)]; omega
      · subst y; rw [b.1, b.2 0 (by decide), b.2 1 (by decide), b.2 2 (by decide), b.2 3 (by decide), b.2 5 (by decide), b.2 6 (by decide), b.2 7 (by decide)]; omega
      · subst y; rw [b.1, b.2 0 (by decide), b.2 1 (by decide), b.2 2 (by decide), b.2 3 (by decide), b.2 4 (by decide), b.2 6 (by decide), b.2 7 (by decide)]; omega
      · subst y; rw [b.1, b.2 0 (by decide), b.2 1 (by decide), b.2 2 (by decide), b.2 3 (by decide), b.2 4 (by decide), b.2 5 (by decide), b.2 7 (by decide)]; omega
      · subst y; rw [b.1, b.2 0 (by decide), b.2 1 (by decide), b.2 2 (by decide), b.2 3 (by decide), b.2 4 (by decide), b.2 5 (by decide), b.2 6 (by decide)]; omega
  have Kh : ∀ j, 63 < j → j ≤ 99 → M2 j = M j := fun j y0 y1 => K j (by omega) (by omega) (by omega) (by omega) (by omega) (by omega) (by omega) (by omega) (by omega)
  have Kc : ∀ j, (j = 0 ∨ (8 ≤ j ∧ j < 58)) → M2 j = M j := fun j y => K j (by omega) (by omega) (by omega) (by omega) (by omega) (by omega) (by omega) (by omega) (by omega)
  have hcr : cRel e M2 M2 cs cl := ⟨s1, s2, ⟨hpC_k s3.1 yLe.rf (Kc 30 (by omega)) (Kc 34 (by omega)), s3.2⟩, hst2, fun x x0 x1 => by omega, fun x y x0 x1 => by omega, s7⟩
  have hro2 : rom e M2 cs cl := by
    unfold rom at *
    rw [d59 25 (by decide)]; exact hro
  have hb3 := szI_b hI
  refine ⟨⟨cs, cl, hcr, ⟨⟨⟨by rw [z18]; omega, fun p hp => absurd hp (noP p)⟩, hwT2, ⟨by rw [z10]; omega, fun v v0 v1 => by omega⟩, fun p hp => absurd hp (noP p), fun p hp => absurd hp (noP p)⟩, by rw [z25]; omega, fun x x0 x1 => by omega, fun z => by omega, by rw [Kh 79 (by omega) (by omega)]; exact h9.1, fun x x0 x1 => ?_⟩, wkR_k hw (Kc 45 (by omega)) (Kc 46 (by omega)) (Kh 81 (by omega) (by omega)), tlR_k htl (Kc 53 (by omega)) (Kc 54 (by omega)) (Kc 55 (by omega)) (d59 55 (by decide)) (Kh 99 (by omega) (by omega)), ⟨⟨hI.1, fun u u0 u1 => ⟨(hb3 u u0 u1).1, by have := (hb3 u u0 u1).2; omega, hI.2.2.1 u u0 u1⟩, fun u u0 u1 => ⟨?_, hI.2.2.2.2 u (by rw [eT, eT', ← qT]; exact u0) u1⟩, fun u u0 u1 => ⟨fun k k0 k1 hp => ?_, fun hp => ?_⟩⟩, fun v v0 v1 => by omega, fun p hp => absurd hp (noP p)⟩, hro2⟩, Kc 0 (by omega)⟩
  · rw [d59 25 (by decide)] at x0
    rw [Kh 96 (by omega) (by omega), Kh 79 (by omega) (by omega), Kh 80 (by omega) (by omega)]
    exact h9.2 x x0 x1
  · rw [qT] at u0
    rw [q60, hD0.2.2.1.2 u (by omega)]; exact (hx.1.2.2.1 u u0 u1).1
  · rw [qT] at u1
    rw [q60] at k1
    rw [hsz u k (by omega) u1 k0 k1, ← emz] at hp ⊢
    exact hL2 u u0 (by rw [eT, eT']; exact u1) k k0 (by rw [eq60]; exact k1) hp
  · rw [qT] at u1
    obtain ⟨k, ⟨k0, k1⟩, m0, m1⟩ := hI.2.2.2.1 u u0 (by rw [eT, eT']; exact u1) hp
    have := (hL2 u u0 (by rw [eT, eT']; exact u1) k k0 k1 m0).2
    rw [eq60] at k1
    refine ⟨k, ⟨k0, by rw [q60]; exact k1⟩, ?_⟩
    rw [hsz u k (by omega) u1 k0 k1, ← emz]; omega
end OPL
