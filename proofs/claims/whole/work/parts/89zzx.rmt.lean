/-! ===== the reference: match ===== -/
def rMn (M M' : xM) : Prop := (∀ c, c ≠ 59 → c ≠ 76 → M' c = M c) ∧ (∀ i, i ≠ 0 → M' 59 i = M 59 i) ∧ ∀ i, i < 3 * M 59 25 → M' 76 i = M 76 i
def rMt (M M' : xM) (n : Int) (A : Int → Int) : Prop := (∀ c, c ≠ 59 → c ≠ 75 → c ≠ 76 → c ≠ 77 → M' c = M c) ∧ (M' 59 25 = M 59 25 + 1 ∧ ∀ i, i ≠ 0 → i ≠ 25 → M' 59 i = M 59 i) ∧ (M' 75 (M 59 25) = n ∧ ∀ i, i ≠ M 59 25 → M' 75 i = M 75 i) ∧ (M' 77 (M 59 25) = 0 ∧ ∀ i, i ≠ M 59 25 → M' 77 i = M 77 i) ∧ (∀ k, 0 ≤ k → k < n → M' 76 (3 * M 59 25 + k) = A k) ∧ ∀ i, i < 3 * M 59 25 → M' 76 i = M 76 i
section RMT
variable {e : yE} {d : Nat} {M : xM}
theorem s_match_r {n a b c : Int} {Q : Int → xM → Prop} (hs : RSh e) (hn : rg n) (habc : rg a ∧ rg b ∧ rg c) (h25 : 0 ≤ M 59 25 ∧ M 59 25 ≤ 20) (h1 : 1 ≤ M 59 1 ∧ M 59 1 ≤ 8) (h63 : ∀ t, 0 ≤ t → t < 8 → 0 ≤ M 63 t ∧ M 63 t ≤ 100000)
    (hno : ¬ ((1 ≤ n ∧ n ≤ 3) ∧ M 59 25 < 20 ∧ (∀ k, 0 ≤ k → k < n → 0 ≤ pk3 k a b c ∧ pk3 k a b c < M 59 1) ∧ ∀ t, 0 ≤ t → t < M 59 1 → M 63 t ≠ 0) → ∀ M', rMn M M' → Q (-1) M')
    (hok : (1 ≤ n ∧ n ≤ 3) → M 59 25 < 20 → (∀ k, 0 ≤ k → k < n → 0 ≤ pk3 k a b c ∧ pk3 k a b c < M 59 1) → (∀ t, 0 ≤ t → t < M 59 1 → M 63 t ≠ 0) → ∀ M', rMt M M' n (fun q => pk3 q a b c) → Q (M 59 25) M') : R_match e (d + 2) n a b c M Q := by
  have hpr : ∀ q, rg (pk3 q a b c) := fun q => by unfold pk3; split; exact habc.1; split; exact habc.2.1; exact habc.2.2
  refine t_match (t_match_0 hs (fun M1 e1 => ?_))
  have f : ∀ q, q ≠ 59 → M1 q = M q := fun q hq => by rw [e1, xrd hq]
  have f59 : ∀ i, i ≠ 0 → M1 59 i = M 59 i := fun i hi => by rw [e1, xri hi]
  have n1 : rMn M M1 := ⟨fun q y1 _ => f q y1, f59, fun i _ => by rw [f 76 (by decide)]⟩
  refine ⟨hn, fun z => hno (fun u => by omega) M1 n1, fun z1 => ⟨hn, fun z => hno (fun u => by omega) M1 n1, fun z2 => ?_⟩⟩
  rw [f59 25 (by decide)]
  refine ⟨⟨by omega, by omega⟩, fun z3 => ?_, fun z => hno (fun u => by omega) M1 n1⟩
  -- all types have values
  have fin : ∀ L : xM, (∀ q, q ≠ 76 → L q = M1 q) → (∀ k, 0 ≤ k → k < n → L 76 (3 * M 59 25 + k) = pk3 k a b c) → (∀ i, i < 3 * M 59 25 → L 76 i = M 76 i) → (∀ k, 0 ≤ k → k < n → 0 ≤ pk3 k a b c ∧ pk3 k a b c < M 59 1) → ∀ (j x : Nat), (x : Int) + j = M 59 1 → (∀ t, 0 ≤ t → t < (x : Int) → M 63 t ≠ 0) → R_match_85 e (d + 1) n x L Q := by
    intro L b1 b2 b3 hty j
    have l63 : L 63 = M 63 := by rw [b1 63 (by decide), f 63 (by decide)]
    have l59 : ∀ i, i ≠ 0 → L 59 i = M 59 i := fun i hi => by rw [b1 59 (by decide), f59 i hi]
    induction j with
    | zero =>
      intro x hx g
      refine t_match_85 hs ?_
      rw [l59 1 (by decide), l59 25 (by decide)]
      refine ⟨⟨⟨by omega, by omega⟩, ⟨by omega, by omega⟩⟩, fun _ => ⟨by omega, fun M2 e2 => ?_⟩, fun z => absurd (by omega) z⟩
      have q2 : M2 59 25 = M 59 25 := by rw [e2, xrd (by decide), l59 25 (by decide)]
      rw [q2]
      refine ⟨by omega, fun M3 e3 M4 e4 => ?_⟩
      have q3 : M3 59 25 = M 59 25 := by rw [e3, xrd (by decide), q2]
      have q4 : M4 59 25 = M 59 25 + 1 := by rw [e4, xrs, q3]
      rw [q4, show M 59 25 + 1 - 1 = M 59 25 by omega]
      refine hok (by omega) (by omega) hty (fun t t0 t1 => g t t0 (by omega)) M4 ⟨fun q y1 y2 y3 y4 => ?_, ⟨q4, fun i y1 y2 => ?_⟩, ⟨?_, fun i hi => ?_⟩, ⟨?_, fun i hi => ?_⟩, fun k k0 k1 => ?_, fun i hi => ?_⟩
      · rw [e4, xrd y1, e3, xrd y4, e2, xrd y2, b1 q y3, f q y1]
      · rw [e4, xri y2, e3, xrd (by decide), e2, xrd (by decide), l59 i y1]
      · rw [e4, xrd (by decide), e3, xrd (by decide), e2, xrs]
      · rw [e4, xrd (by decide), e3, xrd (by decide), e2, xri hi, b1 75 (by decide), f 75 (by decide)]
      · rw [e4, xrd (by decide), e3, xrs]
      · rw [e4, xrd (by decide), e3, xri hi, e2, xrd (by decide), b1 77 (by decide), f 77 (by decide)]
      · rw [e4, xrd (by decide), e3, xrd (by decide), e2, xrd (by decide)]; exact b2 k k0 k1
      · rw [e4, xrd (by decide), e3, xrd (by decide), e2, xrd (by decide)]; exact b3 i hi
    | succ j ih =>
      intro x hx g
      refine t_match_85 hs ?_
      rw [l59 1 (by decide), l63]
      have := h63 x (by omega) (by omega)
      refine ⟨⟨⟨by omega, by omega⟩, ⟨by omega, by omega⟩⟩, fun z => absurd z (by omega), fun _ => ⟨by omega, ⟨by omega, by omega⟩, fun z => ih (x + 1) (by omega) (fun t t0 t1 => ?_), fun z => hno (fun u => u.2.2.2 x (by omega) (by omega) (Classical.not_not.mp z)) L ⟨fun q y1 y2 => by rw [b1 q y2, f q y1], l59, b3⟩⟩⟩
      by_cases y : t = x
      · rw [y]; exact z
      · exact g t t0 (by omega)
  have key : ∀ (j x : Nat) (L : xM), (x : Int) + j = n → (∀ q, q ≠ 76 → L q = M1 q) → (∀ k, 0 ≤ k → k < (x : Int) → L 76 (3 * M 59 25 + k) = pk3 k a b c) → (∀ i, i < 3 * M 59 25 → L 76 i = M 76 i) → (∀ k, 0 ≤ k → k < (x : Int) → 0 ≤ pk3 k a b c ∧ pk3 k a b c < M 59 1) → R_match_29 e (d + 1) n a b c x L Q := by
    intro j
    induction j with
    | zero =>
      intro x L hx b1 b2 b3 g
      refine t_match_29 hs ⟨⟨⟨by omega, by omega⟩, ⟨by omega, by omega⟩⟩, fun _ => ?_, fun z => absurd (by omega) z⟩
      exact fin L b1 (fun k k0 k1 => b2 k k0 (by omega)) b3 (fun k k0 k1 => g k k0 (by omega)) (M 59 1).toNat 0 (by omega) (fun t t0 t1 => by omega)
    | succ j ih =>
      intro x L hx b1 b2 b3 g
      have l59 : ∀ i, i ≠ 0 → L 59 i = M 59 i := fun i hi => by rw [b1 59 (by decide), f59 i hi]
      refine t_match_29 hs ⟨⟨⟨by omega, by omega⟩, ⟨by omega, by omega⟩⟩, fun z => absurd z (by omega), fun _ => s_pick ⟨by omega, by omega⟩ (s_isType hs (hpr x) (by rw [l59 1 (by decide)]; exact ⟨by omega, by omega⟩) ?_)⟩
      rw [l59 1 (by decide), l59 25 (by decide)]
      refine ⟨bI_rg, fun z => s_pick ⟨by omega, by omega⟩ ⟨by omega, fun L2 e2 => ?_⟩, fun z => hno (fun u => bI_0.mp (Classical.not_not.mp z) (u.2.2.1 x (by omega) (by omega))) L ⟨fun q y1 y2 => by rw [b1 q y2, f q y1], l59, b3⟩⟩
      have z' : 0 ≤ pk3 x a b c ∧ pk3 x a b c < M 59 1 := Classical.not_not.mp (fun u => z (bI_0.mpr u))
      refine ih (x + 1) L2 (by omega) (fun q hq => by rw [e2, xrd hq, b1 q hq]) (fun k k0 k1 => ?_) (fun i hi => by rw [e2, xri (by omega)]; exact b3 i hi) (fun k k0 k1 => ?_)
      · rw [e2]
        by_cases y : k = x
        · rw [y, xrs]
        · rw [xri (by omega)]; exact b2 k k0 (by omega)
      · by_cases y : k = x
        · rw [y]; exact z'
        · exact g k k0 (by omega)
  exact key n.toNat 0 M1 (by omega) (fun _ _ => rfl) (fun k k0 k1 => by omega) (fun i _ => by rw [f 76 (by decide)]) (fun k k0 k1 => by omega)
end RMT
