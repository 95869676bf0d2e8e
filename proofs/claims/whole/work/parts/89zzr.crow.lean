/-! ===== the class: a row ===== -/
def cRw (M M' : xM) (mq : Nat) (w g1 g2 : Int) (A : Int → Int) : Prop := (∀ j, j ≠ mq → j ≠ mq + 2 → j ≠ mq + 3 → j ≠ mq + 4 → M' j = M j) ∧ (M' mq 2 = M mq 2 + 1 ∧ M' mq 7 = 1 ∧ ∀ i, i ≠ 2 → i ≠ 7 → M' mq i = M mq i) ∧ (∀ k, 0 ≤ k → k < w → M' (mq + 2) (M mq 2 * 3 + k) = A k) ∧ (∀ i, ¬ (M mq 2 * 3 ≤ i ∧ i < M mq 2 * 3 + w) → M' (mq + 2) i = M (mq + 2) i) ∧ (M' (mq + 3) (M mq 2) = g1 ∧ ∀ i, i ≠ M mq 2 → M' (mq + 3) i = M (mq + 3) i) ∧ (M' (mq + 4) (M mq 2) = g2 ∧ ∀ i, i ≠ M mq 2 → M' (mq + 4) i = M (mq + 4) i)
section CRO
variable {e : yE} {d : Nat} {M M0 : xM} {mq : Nat}
theorem s_addRowC {g1 g2 w : Int} {A : Int → Int} {Q : Int → xM → Prop} (hs : CSh e) (hk : XSh3 mq e) (hq : 99 < mq) (h0 : M mq 0 = w) (hw : 1 ≤ w ∧ w ≤ 3) (h2 : 0 ≤ M mq 2 ∧ M mq 2 ≤ 12) (h58 : ∀ k, 0 ≤ k → k < w → M 58 k = A k) (hno : M mq 2 = 12 → Q (-1) M) (hok : M mq 2 < 12 → ∀ M', cRw M M' mq w g1 g2 A → Q (M mq 2) M') : C_Ma_addRow e (d + 1) mq 58 3 g1 g2 M Q := by
  refine c_Ma_addRow (c_Ma_addRow_0 hs hk (caa_58 hs) ⟨⟨by omega, by omega⟩, fun z => ?_, fun z => hno (Classical.not_not.mp z)⟩)
  have key : ∀ (j x : Nat) (L : xM), (x : Int) + j = w → (∀ q, q ≠ mq + 2 → L q = M q) → (∀ k, 0 ≤ k → k < (x : Int) → L (mq + 2) (M mq 2 * 3 + k) = A k) → (∀ i, ¬ (M mq 2 * 3 ≤ i ∧ i < M mq 2 * 3 + x) → L (mq + 2) i = M (mq + 2) i) → C_Ma_addRow_14 e d mq 58 3 g1 g2 x L Q := by
    intro j
    induction j with
    | zero =>
      intro x L hx b1 b2 b3
      have q0 : L mq = M mq := b1 mq (by omega)
      refine c_Ma_addRow_14 hs hk (caa_58 hs) ?_
      rw [q0, h0]
      refine ⟨⟨⟨by omega, by omega⟩, ⟨by omega, by omega⟩⟩, fun _ => ⟨by omega, fun M1 e1 => ?_⟩, fun y => absurd (by omega) y⟩
      have q1 : M1 mq = M mq := by rw [e1, xrd (by omega), q0]
      rw [q1]
      refine ⟨by omega, fun M2 e2 M3 e3 M4 e4 => ?_⟩
      have q2 : M2 mq = M mq := by rw [e2, xrd (by omega), q1]
      have q3 : M3 mq 2 = M mq 2 := by rw [e3, xri (by decide), q2]
      have q4 : M4 mq 2 = M mq 2 + 1 := by rw [e4, xrs, q3]
      rw [q4, show M mq 2 + 1 - 1 = M mq 2 by omega]
      have g : ∀ q, q ≠ mq → q ≠ mq + 3 → q ≠ mq + 4 → M4 q = L q := fun q y1 y2 y3 => by rw [e4, xrd y1, e3, xrd y1, e2, xrd y3, e1, xrd y2]
      refine hok (by omega) M4 ⟨fun q y1 y2 y3 y4 => by rw [g q y1 y3 y4, b1 q y2], ⟨q4, ?_, fun i y1 y2 => ?_⟩, fun k k0 k1 => ?_, fun i hi => ?_, ⟨?_, fun i hi => ?_⟩, ⟨?_, fun i hi => ?_⟩⟩
      · rw [e4, xri (by decide), e3, xrs]
      · rw [e4, xri y1, e3, xri y2, q2]
      · rw [g (mq + 2) (by omega) (by omega) (by omega)]; exact b2 k k0 (by omega)
      · rw [g (mq + 2) (by omega) (by omega) (by omega)]; exact b3 i (by omega)
      · rw [e4, xrd (by omega), e3, xrd (by omega), e2, xrd (by omega), e1, xrs]
      · rw [e4, xrd (by omega), e3, xrd (by omega), e2, xrd (by omega), e1, xri hi, b1 (mq + 3) (by omega)]
      · rw [e4, xrd (by omega), e3, xrd (by omega), e2, xrs]
      · rw [e4, xrd (by omega), e3, xrd (by omega), e2, xri hi, e1, xrd (by omega), b1 (mq + 4) (by omega)]
    | succ j ih =>
      intro x L hx b1 b2 b3
      have q0 : L mq = M mq := b1 mq (by omega)
      refine c_Ma_addRow_14 hs hk (caa_58 hs) ?_
      rw [q0, h0]
      refine ⟨⟨⟨by omega, by omega⟩, ⟨by omega, by omega⟩⟩, fun y => absurd y (by omega), fun _ => ⟨by omega, by omega, fun L2 e2 => ?_⟩⟩
      rw [b1 58 (by omega), h58 x (by omega) (by omega)] at e2
      refine ih (x + 1) L2 (by omega) (fun q hq => by rw [e2, xrd hq, b1 q hq]) (fun k k0 k1 => ?_) (fun i hi => ?_)
      · rw [e2]
        by_cases z : k = x
        · rw [z, xrs]
        · rw [xri (by omega)]; exact b2 k k0 (by omega)
      · rw [e2, xri (by omega)]; exact b3 i (by omega)
  exact key w.toNat 0 M (by omega) (fun _ _ => rfl) (fun k k0 k1 => by omega) (fun i _ => rfl)
theorem s_guardC {g1 g2 w : Int} {A : Int → Int} {Q : Int → xM → Prop} (hs : CSh e) (hw : 1 ≤ w ∧ w ≤ 3) (hwp : wfP M) (hx : rfX M) (hC : tmR M M) (h0 : ∀ j, j ≠ 58 → M0 j = M j) (h58 : ∀ k, 0 ≤ k → k < w → M0 58 k = A k) (hp : ∀ k, 0 ≤ k → k < w → isP M (A k)) (hg1 : rg g1) (hg2 : rg g2) (hy : ((∀ k, 0 ≤ k → k < w → M 74 (A k) = 0) ∧ gN M A w g1 ∧ gN M A w g2) → Q 1 M0) (hn : ¬ ((∀ k, 0 ≤ k → k < w → M 74 (A k) = 0) ∧ gN M A w g1 ∧ gN M A w g2) → Q 0 M0) : C_Mf_isGuard e (d + 2) g1 g2 w M0 Q := by
  have tP := hC.2.2.2
  have h300 := hwp.1
  have q27 : M0 27 = M 27 := h0 27 (by decide)
  have q26 : M0 26 = M 26 := h0 26 (by decide)
  have key : ∀ (j x : Nat), (x : Int) + j = w → (∀ k, 0 ≤ k → k < (x : Int) → M 74 (A k) = 0) → C_Mf_isGuard_6 e (d + 1) g1 g2 w (orS (M 26) A 0 x) x M0 Q := by
    intro j
    induction j with
    | zero =>
      intro x hx' g
      have hxw : w = x := by omega
      obtain ⟨w1, w2⟩ := orS_w (f := M 26) (a := A) (x := 0) ⟨by decide, by decide⟩ x (fun q q0 q1 => (tP _ (hp q q0 (by omega))).2.2.2.2.1)
      have eb : ∀ y, 0 ≤ y → y < 16 → (xand32 (xshr32 (orS (M 26) A 0 x) y) 1 = 1 ↔ gN M A w y) := by
        intro y y0 y1
        rw [w2 y y0 y1]
        constructor
        · rintro (u | ⟨k, k0, k1, u⟩)
          · exact absurd u (bit_0 y0 y1)
          · exact ⟨⟨y0, y1⟩, k, k0, by omega, ((tP _ (hp k k0 (by omega))).2.2.2.2.2 (g k k0 k1) y y0 y1).mp u⟩
        · rintro ⟨-, k, k0, k1, u⟩
          exact Or.inr ⟨k, k0, by omega, ((tP _ (hp k k0 k1)).2.2.2.2.2 (g k k0 (by omega)) y y0 y1).mpr u⟩
      refine c_Mf_isGuard_6 hs ⟨⟨⟨by omega, by omega⟩, ⟨by omega, by omega⟩⟩, fun _ => s_isNameC hs hg1 ⟨bI_rg, fun z => hn (fun u => bI_0.mp z u.2.1.1), fun z => s_isNameC hs hg2 ⟨bI_rg, fun y => hn (fun u => bI_0.mp y u.2.2.1), fun y => ?_⟩⟩, fun z => absurd (by omega) z⟩
      have r1 : 0 ≤ g1 ∧ g1 < 16 := Classical.not_not.mp (fun o => z (bI_0.mpr o))
      have r2 : 0 ≤ g2 ∧ g2 < 16 := Classical.not_not.mp (fun o => y (bI_0.mpr o))
      refine c_Mf_inBits (c_Mf_inBits_0 hs ⟨bit_01 w1 r1.1 r1.2, fun v => ⟨⟨by omega, by omega⟩, fun _ => hn (fun u => v ((eb g1 r1.1 r1.2).mpr u.2.1)), fun o => absurd rfl o⟩, fun v => ⟨⟨by omega, by omega⟩, fun o => absurd o (by decide), fun _ => c_Mf_inBits (c_Mf_inBits_0 hs ⟨bit_01 w1 r2.1 r2.2, fun v2 => ⟨⟨by omega, by omega⟩, fun _ => hn (fun u => v2 ((eb g2 r2.1 r2.2).mpr u.2.2)), fun o => absurd rfl o⟩, fun v2 => ⟨⟨by omega, by omega⟩, fun o => absurd o (by decide), fun _ => hy ⟨fun k k0 k1 => g k k0 (by omega), (eb g1 r1.1 r1.2).mp (Classical.not_not.mp v), (eb g2 r2.1 r2.2).mp (Classical.not_not.mp v2)⟩⟩⟩)⟩⟩)
    | succ j ih =>
      intro x hx' g
      have pX := hp x (by omega) (by omega)
      have pX2 := pX.2
      refine c_Mf_isGuard_6 hs ⟨⟨⟨by omega, by omega⟩, ⟨by omega, by omega⟩⟩, fun z => absurd z (by omega), fun _ => ⟨by omega, ?_⟩⟩
      rw [h58 x (by omega) (by omega), q27, q26, (tP _ pX).2.2.2.1]
      have p3 : 0 ≤ A x ∧ A x < 300 := ⟨pX.1, by omega⟩
      refine ⟨p3, by rcases (hx.2.2 _ pX).1 with o | o <;> (rw [o]; exact ⟨by omega, by omega⟩), fun z => ⟨by omega, p3, ih (x + 1) (by omega) (fun k k0 k1 => ?_)⟩, fun z => hn (fun u => z (u.1 x (by omega) (by omega)))⟩
      by_cases y : k = x
      · rw [y]; exact z
      · exact g k k0 (by omega)
  exact c_Mf_isGuard (c_Mf_isGuard_0 hs (key w.toNat 0 (by omega) (fun k k0 k1 => by omega)))
end CRO
