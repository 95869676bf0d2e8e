/-! ===== the reference: maker ===== -/
/-- the reference's tables with the maker -/
def rMk (M D : xM) (t n : Int) (A : Int → Int) : Prop := (∀ c, c ≠ 59 → c ≠ 60 → c ≠ 61 → c ≠ 62 → D c = M c) ∧ (∀ i, i ≠ 0 → D 59 i = M 59 i) ∧ (D 60 t = M 60 t + 1 ∧ ∀ i, i ≠ t → D 60 i = M 60 i) ∧ (D 61 (6 * t + M 60 t) = n ∧ ∀ i, i ≠ 6 * t + M 60 t → D 61 i = M 61 i) ∧ (∀ j, 0 ≤ j → j < 3 → D 62 (3 * (6 * t + M 60 t) + j) = A j) ∧ ∀ i, ¬ (3 * (6 * t + M 60 t) ≤ i ∧ i < 3 * (6 * t + M 60 t) + 3) → D 62 i = M 62 i
section RMK
variable {e : yE} {d : Nat} {M D : xM}
theorem wfT_mk {t n : Int} {A : Int → Int} (hw : wfT M) (h : rMk M D t n A) (ht : 0 < t ∧ t < M 59 1) (hn : 0 ≤ n ∧ n ≤ 3) (h6 : M 60 t < 6) (hA : ∀ j, 0 ≤ j → j < n → 0 ≤ A j ∧ A j < M 59 1) : wfT D := by
  obtain ⟨g1, g2, g3, g4, g5, g6⟩ := h
  obtain ⟨w1, w2, w3, w4⟩ := hw
  have e1 := g2 1 (by decide)
  have ht6 := w2 t (by omega) (by omega)
  refine ⟨by rw [e1]; exact w1, fun u u0 u1 => ?_, by rw [g3.2 0 (by omega)]; exact w3, fun u k u0 u1 k0 k1 => ?_⟩
  · by_cases z : u = t
    · rw [z, g3.1]; omega
    · rw [g3.2 u z]; exact w2 u u0 u1
  · rw [e1] at u1 ⊢
    by_cases z : u = t
    · rw [z] at k1 ⊢
      rw [g3.1] at k1
      by_cases y : k = M 60 t
      · rw [y, g4.1]
        refine ⟨hn, fun j j0 j1 => ?_⟩
        rw [g5 j j0 (by omega)]; exact hA j j0 j1
      · rw [g4.2 _ (by omega)]
        obtain ⟨a1, a2⟩ := w4 t k (by omega) ht.2 k0 (by omega)
        refine ⟨a1, fun j j0 j1 => ?_⟩
        rw [g6 _ (by omega)]; exact a2 j j0 j1
    · rw [g3.2 u z] at k1
      have hu6 := w2 u u0 (by omega)
      obtain ⟨a1, a2⟩ := w4 u k u0 u1 k0 k1
      rw [g4.2 _ (by omega)]
      refine ⟨a1, fun j j0 j1 => ?_⟩
      rw [g6 _ (by omega)]; exact a2 j j0 j1
theorem s_maker_r {t n a b c : Int} {Q : Int → xM → Prop} (hs : RSh e) (hw : wfT M) (h10 : 0 ≤ M 59 10 ∧ M 59 10 ≤ 300) (h18 : 0 ≤ M 59 18 ∧ M 59 18 ≤ 300) (h25 : 0 ≤ M 59 25 ∧ M 59 25 ≤ 20) (h63 : M 63 0 = 1) (ht : rg t) (hn : rg n) (habc : rg a ∧ rg b ∧ rg c)
    (hno : ¬ ((0 < t ∧ t < M 59 1) ∧ (0 ≤ n ∧ n ≤ 3) ∧ M 60 t < 6 ∧ (M 59 10 = 0 ∧ M 59 18 = 0 ∧ M 59 25 = 0) ∧ ∀ j, 0 ≤ j → j < n → 0 ≤ pk3 j a b c ∧ pk3 j a b c < M 59 1) → Q (-1) (xup M 59 0 0))
    (hok : (0 < t ∧ t < M 59 1) → (0 ≤ n ∧ n ≤ 3) → M 60 t < 6 → (M 59 10 = 0 ∧ M 59 18 = 0 ∧ M 59 25 = 0) → (∀ j, 0 ≤ j → j < n → 0 ≤ pk3 j a b c ∧ pk3 j a b c < M 59 1) → ∀ D M', rMk M D t n (fun q => pk3 q a b c) → (∀ c, c ≠ 63 → M' c = D c) → szI D (M' 63) → solL D (M' 63) → Q (M 60 t) M') : R_maker e (d + 4) t n a b c M Q := by
  have h8 := hw.1
  refine t_maker (t_maker_0 hs (fun M1 e1 => ?_))
  have f : ∀ q, q ≠ 59 → M1 q = M q := fun q hq => by rw [e1, xrd hq]
  have f59 : ∀ i, i ≠ 0 → M1 59 i = M 59 i := fun i hi => by rw [e1, xri hi]
  rw [← e1] at hno
  refine s_isType hs ht (by rw [f59 1 (by decide)]; exact ⟨by omega, by omega⟩) ?_
  rw [f59 1 (by decide)]
  refine ⟨bI_rg, fun z => hno (fun u => bI_0.mp z ⟨by omega, u.1.2⟩), fun z => ?_⟩
  have ht1 : 0 ≤ t ∧ t < M 59 1 := Classical.not_not.mp (fun u => z (bI_0.mpr u))
  have h6 := hw.2.1 t ht1.1 (by omega)
  refine ⟨ht, fun z0 => hno (fun u => by omega), fun z0 => ⟨hn, fun z1 => hno (fun u => by omega), fun z1 => ⟨hn, fun z2 => hno (fun u => by omega), fun z2 => ⟨by omega, ?_⟩⟩⟩⟩
  rw [f 60 (by decide), f59 10 (by decide), f59 18 (by decide), f59 25 (by decide)]
  refine ⟨⟨by omega, by omega⟩, fun z3 => hno (fun u => by omega), fun z3 => ⟨⟨by omega, by omega⟩, fun z4 => ?_, fun z4 => hno (fun u => by have := u.2.2.2.1; omega)⟩⟩
  -- the tables are written
  have put : (∀ j, 0 ≤ j → j < n → 0 ≤ pk3 j a b c ∧ pk3 j a b c < M 59 1) → R_maker_98 e (d + 3) t n a b c M1 Q := by
    intro hA
    refine t_maker_98 hs ⟨by omega, ?_⟩
    rw [f 60 (by decide)]
    refine ⟨by omega, fun M2 e2 => ?_⟩
    have q2 : M2 60 = M 60 := by rw [e2, xrd (by decide), f 60 (by decide)]
    refine ⟨by omega, fun M3 e3 => ?_⟩
    have q3 : M3 60 = M 60 := by rw [e3, xrd (by decide), q2]
    refine ⟨by omega, fun M4 e4 => ?_⟩
    have q4 : M4 60 = M 60 := by rw [e4, xrd (by decide), q3]
    refine ⟨by omega, fun M5 e5 => ⟨by omega, by omega, fun M6 e6 => ?_⟩⟩
    have q5 : M5 60 = M 60 := by rw [e5, xrd (by decide), q4]
    have g : ∀ q, q ≠ 60 → q ≠ 61 → q ≠ 62 → M6 q = M1 q := fun q y0 y1 y2 => by rw [e6, xrd y0, e5, xrd y2, e4, xrd y2, e3, xrd y2, e2, xrd y1]
    have hD : rMk M M6 t n (fun q => pk3 q a b c) := by
      refine ⟨fun q y0 y1 y2 y3 => by rw [g q y1 y2 y3, f q y0], fun i hi => by rw [g 59 (by decide) (by decide) (by decide), f59 i hi], ⟨by rw [e6, xrs, q5], fun i hi => by rw [e6, xri hi, q5]⟩, ⟨?_, fun i hi => ?_⟩, fun j j0 j1 => ?_, fun i hi => ?_⟩
      · rw [e6, xrd (by decide), e5, xrd (by decide), e4, xrd (by decide), e3, xrd (by decide), e2, xrs]
      · rw [e6, xrd (by decide), e5, xrd (by decide), e4, xrd (by decide), e3, xrd (by decide), e2, xri hi, f 61 (by decide)]
      · have : j = 0 ∨ j = 1 ∨ j = 2 := by omega
        rcases this with y | y | y
        · rw [y, e6, xrd (by decide), e5, xri (by omega), e4, xri (by omega), e3, show 3 * (6 * t + M 60 t) + 0 = 3 * (6 * t + M 60 t) by omega, xrs]; rfl
        · rw [y, e6, xrd (by decide), e5, xri (by omega), e4, xrs]; rfl
        · rw [y, e6, xrd (by decide), e5, xrs]; rfl
      · rw [e6, xrd (by decide), e5, xri (by omega), e4, xri (by omega), e3, xri (by omega), e2, xrd (by decide), f 62 (by decide)]
    have hwD := wfT_mk hw hD (by omega) (by omega) (by omega) hA
    refine s_findPlains (D := M6) (d := d + 1) hs hwD.1 hwD.2.1 hwD.2.2.2 (fun _ _ => rfl) (by rw [g 63 (by decide) (by decide) (by decide), f 63 (by decide)]; exact h63) (fun M' k1 k2 k3 => ⟨by omega, ?_⟩)
    rw [k1 60 (by decide), hD.2.2.1.1, show M 60 t + 1 - 1 = M 60 t by omega]
    exact hok (by omega) (by omega) (by omega) (by omega) hA M6 M' hD k1 k2 k3
  have ty : ∀ v, rg v → ∀ Q' : Int → xM → Prop, Q' (bI (0 ≤ v ∧ v < M 59 1)) M1 → R_isType e (d + 3) v M1 Q' := fun v hv Q' hq => s_isType hs hv (by rw [f59 1 (by decide)]; exact ⟨by omega, by omega⟩) (by rw [f59 1 (by decide)]; exact hq)
  have p0 : pk3 0 a b c = a := rfl
  have p1 : pk3 1 a b c = b := rfl
  have p2 : pk3 2 a b c = c := rfl
  have st3 : (0 < n → 0 ≤ a ∧ a < M 59 1) → (1 < n → 0 ≤ b ∧ b < M 59 1) → R_maker_82 e (d + 3) t n a b c M1 Q := by
    intro ha hb
    refine t_maker_82 hs ⟨hn, fun y => put (fun j j0 j1 => ?_), fun y => ty c habc.2.2 _ ⟨bI_rg, fun w => put (fun j j0 j1 => ?_), fun w => hno (fun u => bI_0.mp (Classical.not_not.mp w) (u.2.2.2.2 2 (by omega) (by omega)))⟩⟩
    · have : j = 0 ∨ j = 1 := by omega
      rcases this with w | w
      · rw [w]; exact ha (by omega)
      · rw [w]; exact hb (by omega)
    · have w' : 0 ≤ c ∧ c < M 59 1 := Classical.not_not.mp (fun u => w (bI_0.mpr u))
      have : j = 0 ∨ j = 1 ∨ j = 2 := by omega
      rcases this with v | v | v
      · rw [v]; exact ha (by omega)
      · rw [v]; exact hb (by omega)
      · rw [v]; exact w'
  have st2 : (0 < n → 0 ≤ a ∧ a < M 59 1) → R_maker_68 e (d + 3) t n a b c M1 Q := by
    intro ha
    exact t_maker_68 hs ⟨hn, fun y => st3 ha (fun u => by omega), fun y => ty b habc.2.1 _ ⟨bI_rg, fun w => hno (fun u => bI_0.mp w (u.2.2.2.2 1 (by omega) (by omega))), fun w => st3 ha (fun _ => Classical.not_not.mp (fun u => w (bI_0.mpr u)))⟩⟩
  exact ⟨hn, fun y => st2 (fun u => by omega), fun y => ty a habc.1 _ ⟨bI_rg, fun w => hno (fun u => bI_0.mp w (u.2.2.2.2 0 (by omega) (by omega))), fun w => st2 (fun _ => Classical.not_not.mp (fun u => w (bI_0.mpr u)))⟩⟩
end RMK
