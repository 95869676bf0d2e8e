/-! ===== the reference: rows of a tree in the making ===== -/
section RROW
variable {e : yE} {d : Nat} {M D : xM} {x1 x2 x3 x4 x5 x6 x7 : Int}
/-- the names that a pattern tells are at a place now, in the row x1 -/
def stN (D : xM) (n : Nat) (M : xM) (r p q : Int) : xM := fun c i => if c = 85 ∧ (0 ≤ i - 16 * r ∧ i - 16 * r < 16) ∧ tld D n p (i - 16 * r) = true then q else M c i
theorem stN_ne {n : Nat} {r p q : Int} {k : Nat} (h : k ≠ 85) : stN D n M r p q k = M k := by
  funext i
  unfold stN
  rw [if_neg (fun z => h z.1)]
theorem s_setCell_3 {Q : xM → Prop} (hs : RSh e) (hw : wfP D) (h1 : 0 ≤ x1 ∧ x1 < 8000) : ∀ (n : Nat) (M : xM) (p : Int), (p = -1 ∨ (isP D p ∧ D 72 p ≤ (n : Int))) → M 68 = D 68 → M 70 = D 70 → M 71 = D 71 → (0 ≤ M 84 x1 + x2 ∧ M 84 x1 + x2 < 2300000) →
    Q (xup (stN D n M x1 p x4) 86 (M 84 x1 + x2) (lft D n p)) → R_setCell_3 e d x1 x2 x4 p M Q := by
  intro n
  induction n with
  | zero =>
    intro M p hp e1 e2 e3 h2 h
    have hp1 : p = -1 := by
      rcases hp with hp | ⟨hp, hn⟩
      · exact hp
      · have := (hw.2 p hp).2.1; omega
    subst hp1
    refine t_setCell_3 hs ⟨⟨by omega, by omega⟩, fun _ => t_setCell_87 hs ⟨h1, ⟨h2, by rw [xi2s_small (by omega) (by omega)]; omega⟩, fun M1 e1 => ?_⟩, fun c => absurd (by omega) c⟩
    rw [e1, xi2s_small (by omega) (by omega)]
    have e4 : stN D 0 M x1 (-1) x4 = M := by
      funext c i
      unfold stN tld
      rw [if_neg (by simp)]
    rw [e4] at h
    exact h
  | succ n ih =>
    intro M p hp e1 e2 e3 h2 h
    rcases hp with hp | ⟨hp, hn⟩
    · subst hp
      refine t_setCell_3 hs ⟨⟨by omega, by omega⟩, fun _ => t_setCell_87 hs ⟨h1, ⟨h2, by rw [xi2s_small (by omega) (by omega)]; omega⟩, fun M1 e1 => ?_⟩, fun c => absurd (by omega) c⟩
      rw [e1, xi2s_small (by omega) (by omega)]
      have e4 : stN D (n + 1) M x1 (-1) x4 = M := by
        funext c i
        unfold stN tld
        rw [if_neg (by simp)]
      have e5 : lft D (n + 1) (-1) = -1 := by unfold lft; rw [if_pos (by omega)]
      rw [e4, e5] at h
      exact h
    · have hpr := hw.2 p hp
      have h300 := hw.1
      have hp0 := hp.1
      have hp1 := hp.2
      have hkr : rg (M 68 p) := by rw [e1]; have := hpr.2.2.2.1; exact ⟨by omega, by omega⟩
      refine t_setCell_3 hs ⟨⟨by omega, by omega⟩, fun c => absurd c (by omega), fun _ => ⟨by omega, hkr, fun c3 => ?_, fun c3 => ⟨by omega, hkr, fun c0 => ?_, fun c0 => ?_⟩⟩⟩
      · -- ALSO
        rw [e1] at c3
        obtain ⟨ha, hi, hlt, -, hwt⟩ := hpr.2.2.2.2.2.2.2.1 c3
        have e4 : M 70 p = D 70 p := by rw [e2]
        refine t_setCell_29 hs ⟨by omega, by rw [e4]; exact ⟨by omega, by omega⟩, fun c => absurd c (by omega), fun c => ⟨by omega, by rw [e4]; omega, fun M1 eM => ?_⟩⟩
        have f68 : M1 68 = D 68 := by rw [eM, xrd (by decide), e1]
        have f71 : M1 71 = D 71 := by rw [eM, xrd (by decide), e3]
        refine t_setCell_58 hs ⟨by omega, by rw [f68]; rw [e1] at hkr; exact hkr, fun c => absurd (by rw [f68]; exact c3) c, fun c => ⟨by omega, ?_⟩⟩
        rw [f71, prt_0 (D := D) (p := p)]
        refine ih M1 (prt D p 0) (Or.inr ⟨hi, by omega⟩) f68 (by rw [eM, xrd (by decide), e2]) f71 (by rw [eM, xrd (by decide)]; exact h2) ?_
        have e5 : lft D (n + 1) p = lft D n (prt D p 0) := by
          rw [lft, if_neg (by omega), if_pos c3, prt_0 (D := D) (p := p)]
        have e6 : stN D n M1 x1 (prt D p 0) x4 = stN D (n + 1) M x1 p x4 := by
          funext c i
          have e7 : tld D (n + 1) p (i - 16 * x1) = ((D 70 p == i - 16 * x1) || tld D n (prt D p 0) (i - 16 * x1)) := by
            rw [tld, if_neg (by omega), if_pos c3, prt_0 (D := D) (p := p)]
          unfold stN
          rw [e7, eM, e4, xup_ap]
          by_cases hc : c = 85
          · by_cases hi1 : 0 ≤ i - 16 * x1 ∧ i - 16 * x1 < 16
            · by_cases ht : tld D n (prt D p 0) (i - 16 * x1) = true
              · rw [if_pos ⟨hc, hi1, ht⟩, if_pos ⟨hc, hi1, by simp [ht]⟩]
              · rw [if_neg (fun z => ht z.2.2)]
                by_cases hj : i = 16 * x1 + D 70 p
                · rw [if_pos ⟨hc, hj⟩, if_pos ⟨hc, hi1, by rw [Bool.or_eq_true, beq_iff_eq]; left; omega⟩]
                · rw [if_neg (fun z => hj z.2), if_neg (fun z => ?_)]
                  have := z.2.2
                  rw [Bool.or_eq_true, beq_iff_eq] at this
                  rcases this with h | h
                  · omega
                  · exact ht h
            · rw [if_neg (fun z => hi1 z.2.1), if_neg (fun z => hi1 (by have := z.2; omega)), if_neg (fun z => hi1 z.2.1)]
          · rw [if_neg (fun z => hc z.1), if_neg (fun z => hc z.1), if_neg (fun z => hc z.1)]
        rw [e5] at h
        rw [e6, show M1 84 x1 = M 84 x1 by rw [eM, xrd (by decide)]]
        exact h
      · -- neither
        rw [e1] at c3 c0
        refine t_setCell_87 hs ⟨h1, ⟨h2, by rw [xi2s_small (by omega) (by omega)]; omega⟩, fun M1 e1 => ?_⟩
        rw [e1, xi2s_small (by omega) (by omega)]
        have e4 : stN D (n + 1) M x1 p x4 = M := by
          funext c i
          unfold stN tld
          rw [if_neg (by rw [if_neg c3, if_neg c0]; simp)]
        have e5 : lft D (n + 1) p = p := by unfold lft; rw [if_neg (by omega), if_neg c3, if_neg c0]
        rw [e4, e5] at h
        exact h
      · -- ANY, or a name
        rw [e1] at c3 c0
        have c0 : D 68 p = 0 := Classical.not_not.mp c0
        have ha := hpr.2.2.2.2.1 c0
        have e4 : M 70 p = D 70 p := by rw [e2]
        have e5 : lft D (n + 1) p = -1 := by unfold lft; rw [if_neg (by omega), if_neg c3, if_pos c0]
        rw [e5] at h
        refine t_setCell_29 hs ⟨by omega, by rw [e4]; exact ⟨by omega, by omega⟩, fun c => ?_, fun c => ⟨by omega, by rw [e4]; omega, fun M1 eM => ?_⟩⟩
        · refine t_setCell_58 hs ⟨by omega, hkr, fun _ => ?_, fun c => absurd (fun z => c3 (by rw [e1] at z; exact z)) c⟩
          refine t_setCell_3 hs ⟨⟨by omega, by omega⟩, fun _ => t_setCell_87 hs ⟨h1, ⟨h2, by rw [xi2s_small (by omega) (by omega)]; omega⟩, fun M1 e1 => ?_⟩, fun c => absurd (by omega) c⟩
          rw [e1, xi2s_small (by omega) (by omega)]
          have e6 : stN D (n + 1) M x1 p x4 = M := by
            funext c i
            unfold stN tld
            rw [if_neg (by rw [if_neg c3, if_pos c0]; simp; omega)]
          rw [e6] at h
          exact h
        · have f68 : M1 68 = D 68 := by rw [eM, xrd (by decide), e1]
          refine t_setCell_58 hs ⟨by omega, by rw [f68]; rw [e1] at hkr; exact hkr, fun _ => ?_, fun c => absurd (fun z => c3 (by rw [f68] at z; exact z)) c⟩
          have f84 : M1 84 x1 = M 84 x1 := by rw [eM, xrd (by decide)]
          refine t_setCell_3 hs ⟨⟨by omega, by omega⟩, fun _ => t_setCell_87 hs ⟨h1, ⟨by rw [f84]; exact h2, by rw [xi2s_small (by omega) (by omega)]; omega⟩, fun M2 e2 => ?_⟩, fun c => absurd (by omega) c⟩
          rw [e2, xi2s_small (by omega) (by omega), f84, eM, e4]
          have e6 : stN D (n + 1) M x1 p x4 = xup M 85 (16 * x1 + D 70 p) x4 := by
            funext c i
            have e7 : tld D (n + 1) p (i - 16 * x1) = (D 70 p == i - 16 * x1) := by
              rw [tld, if_neg (by omega), if_neg c3, if_pos c0]
            unfold stN
            rw [xup_ap, e7]
            by_cases hc : c = 85 ∧ i = 16 * x1 + D 70 p
            · rw [if_pos hc, if_pos ⟨hc.1, by omega, by rw [beq_iff_eq]; omega⟩]
            · rw [if_neg hc, if_neg (fun z => hc ⟨z.1, by have := z.2.2; rw [beq_iff_eq] at this; omega⟩)]
          rw [e6] at h
          exact h
/-- a cell is set: what is left of the pattern; its names are told -/
theorem s_setCell {Q : xM → Prop} (hs : RSh e) (hw : wfP D) (h1 : 0 ≤ x1 ∧ x1 < 8000) (hp : x3 = -1 ∨ isP D x3) (e1 : M 68 = D 68) (e2 : M 70 = D 70) (e3 : M 71 = D 71) (h2 : 0 ≤ M 84 x1 + x2 ∧ M 84 x1 + x2 < 2300000)
    (h : Q (xup (stN D 41 M x1 x3 x4) 86 (M 84 x1 + x2) (lF D x3))) : R_setCell e (d + 1) x1 x2 x3 x4 M Q := by
  refine t_setCell (t_setCell_0 hs (s_setCell_3 hs hw h1 41 M x3 ?_ e1 e2 e3 h2 h))
  rcases hp with hp | hp
  · exact Or.inl hp
  · exact Or.inr ⟨hp, by have := (hw.2 _ hp).2.1; omega⟩
/-- one row copied to another -/
def cpR (M : xM) (f t w : Int) : xM := fun c i => if c = 85 ∧ (16 * t ≤ i ∧ i < 16 * t + 16) then M 85 (i - 16 * t + 16 * f) else if c = 86 ∧ (M 84 t ≤ i ∧ i < M 84 t + w) then M 86 (M 84 f + (i - M 84 t)) else M c i
theorem s_copyRow {Q : xM → Prop} (hs : RSh e) (h1 : 0 ≤ x1 ∧ x1 < 8000) (h2 : 0 ≤ x2 ∧ x2 < 8000) (hne : x1 ≠ x2) (h3 : 0 ≤ x3 ∧ x3 ≤ 100000) (hf : 0 ≤ M 84 x1 ∧ M 84 x1 + x3 ≤ 2300000) (ht : 0 ≤ M 84 x2 ∧ M 84 x2 + x3 ≤ 2300000) (hd : M 84 x1 + x3 ≤ M 84 x2 ∨ M 84 x2 + x3 ≤ M 84 x1)
    (hv : ∀ k, 0 ≤ k → k < x3 → -1 ≤ M 86 (M 84 x1 + k) ∧ M 86 (M 84 x1 + k) < 300) (h : Q (cpR M x1 x2 x3)) : R_copyRow e (d + 1) x1 x2 x3 M Q := by
  refine t_copyRow (t_copyRow_0 hs ?_)
  refine for_up (fun k M' => R_copyRow_3 e d x1 x2 x3 k M' Q) (fun k M' => 0 ≤ k ∧ (∀ c i, ¬ (c = 85 ∧ 16 * x2 ≤ i ∧ i < 16 * x2 + k) → M' c i = M c i) ∧ (∀ a, 0 ≤ a → a < k → M' 85 (16 * x2 + a) = M 85 (16 * x1 + a))) 16 ?_ ?_ 0 M (by omega) ⟨by omega, fun _ _ _ => rfl, fun a h0 h1 => by omega⟩
  · rintro k M' ⟨hk, hM, hn⟩ hlt hgo
    refine t_copyRow_3 hs ⟨⟨by omega, by omega⟩, fun c => absurd c (by omega), fun _ => ⟨by omega, by omega, fun M1 e1 => hgo M1 ⟨by omega, fun c i hc => ?_, fun a h0 h1 => ?_⟩⟩⟩
    · rw [e1, xup_ap, if_neg (by omega)]
      exact hM c i (by omega)
    · by_cases ha : a = k
      · rw [ha, e1, xrs]; exact hM 85 _ (by omega)
      · rw [e1, xri (by omega)]; exact hn a h0 (by omega)
  · rintro M' ⟨-, hM, hn⟩
    have f84 : M' 84 = M 84 := by funext i; exact hM 84 i (by omega)
    refine t_copyRow_3 hs ⟨⟨by omega, by omega⟩, fun _ => ?_, fun c => absurd (by omega) c⟩
    refine for_up (fun k M'' => R_copyRow_43 e d x1 x2 x3 k M'' Q) (fun k M'' => 0 ≤ k ∧ (∀ c i, ¬ (c = 86 ∧ M 84 x2 ≤ i ∧ i < M 84 x2 + k) → M'' c i = M' c i) ∧ (∀ a, 0 ≤ a → a < k → M'' 86 (M 84 x2 + a) = M 86 (M 84 x1 + a))) x3 ?_ ?_ 0 M' (by omega) ⟨by omega, fun _ _ _ => rfl, fun a h0 h1 => by omega⟩
    · rintro k M'' ⟨hk, hM2, hn2⟩ hlt hgo
      have g84 : M'' 84 = M 84 := by funext i; rw [hM2 84 i (by omega), f84]
      have g86 : M'' 86 (M 84 x1 + k) = M 86 (M 84 x1 + k) := by rw [hM2 86 _ (by omega), hM 86 _ (by omega)]
      have hvk := hv k hk hlt
      refine t_copyRow_43 hs ⟨⟨⟨by omega, by omega⟩, ⟨by omega, by omega⟩⟩, fun c => absurd c (by omega), fun _ => ?_⟩
      rw [g84, g86]
      refine ⟨by omega, by omega, by omega, ⟨by omega, by omega⟩, fun M1 e1 => hgo M1 ⟨by omega, fun c i hc => ?_, fun a h0 h1 => ?_⟩⟩
      · rw [e1, xup_ap, if_neg (by omega)]
        exact hM2 c i (by omega)
      · by_cases ha : a = k
        · rw [ha, e1, xrs]
        · rw [e1, xri (by omega)]; exact hn2 a h0 (by omega)
    · rintro M'' ⟨-, hM2, hn2⟩
      refine t_copyRow_43 hs ⟨⟨⟨by omega, by omega⟩, ⟨by omega, by omega⟩⟩, fun _ => ?_, fun c => absurd (by omega) c⟩
      have e5 : M'' = cpR M x1 x2 x3 := by
        funext c i
        unfold cpR
        by_cases h5 : c = 85 ∧ (16 * x2 ≤ i ∧ i < 16 * x2 + 16)
        · rw [if_pos h5, hM2 c i (by omega), h5.1]
          have := hn (i - 16 * x2) (by omega) (by omega)
          rw [show 16 * x2 + (i - 16 * x2) = i by omega, show 16 * x1 + (i - 16 * x2) = i - 16 * x2 + 16 * x1 by omega] at this
          exact this
        · rw [if_neg h5]
          by_cases h6 : c = 86 ∧ (M 84 x2 ≤ i ∧ i < M 84 x2 + x3)
          · rw [if_pos h6, h6.1]
            have := hn2 (i - M 84 x2) (by omega) (by omega)
            rw [show M 84 x2 + (i - M 84 x2) = i by omega] at this
            exact this
          · rw [if_neg h6, hM2 c i h6, hM c i h5]
      rw [e5]
      exact h
/-- a row comes behind the others -/
def pshR (M : xM) (n w : Int) : xM := xup (xup (xup (xup M 83 (M 59 31) n) 84 (M 59 31) (M 59 33)) 59 33 (M 59 33 + w)) 59 31 (M 59 31 + 1)
theorem s_pushRow {Q : Int → xM → Prop} (hs : RSh e) (h1 : 0 ≤ M 59 31 ∧ M 59 31 < 8000) (h : Q (M 59 31) (pshR M x1 x2)) : R_pushRow e (d + 1) x1 x2 M Q := by
  refine t_pushRow (t_pushRow_0 hs ⟨h1, fun M1 e1 => ?_⟩)
  have a1 : M1 59 = M 59 := by rw [e1, xrd (by decide)]
  rw [a1]
  refine ⟨h1, fun M2 e2 M3 e3 M4 e4 => ?_⟩
  have a2 : M2 59 = M 59 := by rw [e2, xrd (by decide), a1]
  have a3 : M3 59 31 = M 59 31 := by rw [e3, xri (by decide), a2]
  have a4 : M4 59 31 = M 59 31 + 1 := by rw [e4, xrs, a3]
  have a5 : M4 = pshR M x1 x2 := by rw [e4, a3, e3, a2, e2, e1]; rfl
  rw [a4, a5, show M 59 31 + 1 - 1 = M 59 31 by omega]
  exact h
def nwP (M : xM) (t v : Int) : xM := xup (xup (xup (xup M 88 (M 59 42) t) 89 (M 59 42) 0) 93 (M 59 42) v) 59 42 (M 59 42 + 1)
theorem s_newPlace {Q : Int → xM → Prop} (hs : RSh e) (h1 : 0 ≤ M 59 42 ∧ M 59 42 < 1000) (h : Q (M 59 42) (nwP M x1 x2)) : R_newPlace e (d + 1) x1 x2 M Q := by
  refine t_newPlace (t_newPlace_0 hs ⟨h1, fun M1 e1 => ?_⟩)
  have a1 : M1 59 = M 59 := by rw [e1, xrd (by decide)]
  rw [a1]
  refine ⟨h1, fun M2 e2 => ?_⟩
  have a2 : M2 59 = M 59 := by rw [e2, xrd (by decide), a1]
  rw [a2]
  refine ⟨h1, fun M3 e3 M4 e4 => ?_⟩
  have a3 : M3 59 = M 59 := by rw [e3, xrd (by decide), a2]
  have a4 : M4 59 42 = M 59 42 + 1 := by rw [e4, xrs, a3]
  have a5 : M4 = nwP M x1 x2 := by rw [e4, a3, e3, e2, e1]; rfl
  rw [a4, a5, show M 59 42 + 1 - 1 = M 59 42 by omega]
  exact h
theorem s_cell {Q : Int → xM → Prop} (hs : RSh e) (h1 : 0 ≤ x1 ∧ x1 < 8000) (h2 : 0 ≤ M 84 x1 + x2 ∧ M 84 x1 + x2 < 2300000) (h : Q (M 86 (M 84 x1 + x2)) M) : R_cell e (d + 1) x1 x2 M Q := t_cell (t_cell_0 hs ⟨h1, h2, h⟩)
/-- the first cell that is not ANY -/
def fOp (f : Int → Int) : Nat → Int → Int
  | 0, _ => -1
  | n + 1, k => if 0 ≤ f k then k else fOp f n (k + 1)
theorem s_firstOpen_2 {Q : Int → xM → Prop} (hs : RSh e) (h1 : 0 ≤ x1 ∧ x1 < 8000) (h2 : 0 ≤ x2 ∧ x2 ≤ 100000) (hf : 0 ≤ M 84 x1 ∧ M 84 x1 + x2 ≤ 2300000) (hv : ∀ k, 0 ≤ k → k < x2 → -1 ≤ M 86 (M 84 x1 + k) ∧ M 86 (M 84 x1 + k) < 300) : ∀ (n : Nat) (k : Int), 0 ≤ k → k + (n : Int) = x2 → Q (fOp (fun j => M 86 (M 84 x1 + j)) n k) M → R_firstOpen_2 e (d + 1) x1 x2 k M Q := by
  intro n
  induction n with
  | zero =>
    intro k hk hn h
    exact t_firstOpen_2 hs ⟨⟨⟨by omega, by omega⟩, ⟨by omega, by omega⟩⟩, fun _ => h, fun c => absurd (by omega) c⟩
  | succ n ih =>
    intro k hk hn h
    have hvk := hv k hk (by omega)
    unfold fOp at h
    refine t_firstOpen_2 hs ⟨⟨⟨by omega, by omega⟩, ⟨by omega, by omega⟩⟩, fun c => absurd c (by omega), fun _ => s_cell hs h1 (by omega) ⟨⟨by omega, by omega⟩, fun c => ?_, fun c => ?_⟩⟩
    · rw [if_neg (by omega)] at h
      exact ih (k + 1) (by omega) (by omega) h
    · rw [if_pos (by omega)] at h
      exact h
theorem s_firstOpen {Q : Int → xM → Prop} (hs : RSh e) (h1 : 0 ≤ x1 ∧ x1 < 8000) (h2 : 0 ≤ x2 ∧ x2 ≤ 100000) (hf : 0 ≤ M 84 x1 ∧ M 84 x1 + x2 ≤ 2300000) (hv : ∀ k, 0 ≤ k → k < x2 → -1 ≤ M 86 (M 84 x1 + k) ∧ M 86 (M 84 x1 + k) < 300) (h : Q (fOp (fun j => M 86 (M 84 x1 + j)) x2.toNat 0) M) : R_firstOpen e (d + 2) x1 x2 M Q :=
  t_firstOpen (t_firstOpen_0 hs (s_firstOpen_2 hs h1 h2 hf hv x2.toNat 0 (by omega) (by omega) h))
theorem s_isEither {Q : Int → xM → Prop} (hs : RSh e) (hw : wfP D) (e1 : M 68 = D 68) (h1 : 0 ≤ x1 ∧ x1 < 8000) (h2 : 0 ≤ M 84 x1 + x2 ∧ M 84 x1 + x2 < 2300000) (hp : M 86 (M 84 x1 + x2) = -1 ∨ isP D (M 86 (M 84 x1 + x2))) (h : Q (bI (0 ≤ M 86 (M 84 x1 + x2) ∧ D 68 (M 86 (M 84 x1 + x2)) = 4)) M) : R_isEither e (d + 2) x1 x2 M Q := by
  refine t_isEither (t_isEither_0 hs (s_cell hs h1 h2 ?_))
  rcases hp with hp | hp
  · rw [bI_f (by omega)] at h
    rw [hp]
    exact ⟨⟨by omega, by omega⟩, fun _ => h, fun c => absurd (by omega) c⟩
  · have h300 := hw.1
    have a := hp.1
    have b := hp.2
    have hk := (hw.2 _ hp).2.2.2.1
    refine ⟨⟨by omega, by omega⟩, fun c => absurd c (by omega), fun _ => s_cell hs h1 h2 ⟨by omega, by rw [e1]; exact ⟨by omega, by omega⟩, fun c => ?_, fun c => ?_⟩⟩
    · rw [e1] at c
      rw [bI_f (by omega)] at h
      exact h
    · rw [e1] at c
      rw [bI_t (by omega)] at h
      exact h
/-- a node is counted -/
theorem s_countNode {Q : Int → xM → Prop} (hs : RSh e) (h0 : M 59 45 = 0 ∨ M 59 45 = 1) (hn : 0 ≤ M 59 46 ∧ M 59 46 ≤ 100000) (h1 : 0 ≤ x1 ∧ x1 < 5)
    (ha : M 59 45 = 0 → M 59 46 ≠ 120 → Q 1 (xup (xup (xup M 59 45 0) 59 46 (M 59 46 + 1)) 94 x1 (M 94 x1 + 1))) (hb : (M 59 45 = 1 ∨ M 59 46 = 120) → Q 0 (xup (xup (xup M 59 45 1) 59 46 (M 59 46 + 1)) 94 x1 (M 94 x1 + 1))) : R_countNode e (d + 1) x1 M Q := by
  have key : ∀ s : Int, (s = 0 ∨ s = 1) → (s = 0 → Q 1 (xup (xup (xup M 59 45 0) 59 46 (M 59 46 + 1)) 94 x1 (M 94 x1 + 1))) → (s = 1 → Q 0 (xup (xup (xup M 59 45 1) 59 46 (M 59 46 + 1)) 94 x1 (M 94 x1 + 1))) → R_countNode_22 e d x1 s M Q := by
    intro s hs01 h0 h1'
    refine t_countNode_22 hs ⟨hs01, fun M1 e1 M2 e2 => ⟨h1, h1, fun M3 e3 => ?_⟩⟩
    have a1 : M1 59 46 = M 59 46 := by rw [e1, xri (by decide)]
    have a2 : M2 94 = M 94 := by rw [e2, xrd (by decide), e1, xrd (by decide)]
    have a3 : M3 59 45 = s := by rw [e3, xrd (by decide), e2, xri (by decide), e1, xrs]
    rw [a3, e3, a2, e2, a1, e1]
    refine ⟨by unfold rg; omega, fun c => ?_, fun c => ?_⟩
    · have : s = 1 := by omega
      subst this
      exact h1' rfl
    · have : s = 0 := by omega
      subst this
      exact h0 rfl
  refine t_countNode (t_countNode_0 hs ⟨by unfold rg; omega, fun c => key 1 (by omega) (fun z => by omega) (fun _ => hb (by omega)), fun c => ⟨by unfold rg; omega, fun c2 => key 0 (by omega) (fun _ => ha (by omega) c2) (fun z => by omega), fun c2 => key 1 (by omega) (fun z => by omega) (fun _ => hb (by omega))⟩⟩)
end RROW
