/-! ===== the class: addMaker ===== -/
/-- the class's tables with the maker -/
def aMk (M M' : xM) (t n : Int) (A : Int → Int) : Prop := (∀ c, c ≠ 2 → c ≠ 3 → c ≠ 4 → c ≠ 5 → M' c = M c) ∧ (M' 2 1 = M 2 1 + 1 ∧ ∀ i, i ≠ 1 → M' 2 i = M 2 i) ∧ (M' 3 t = M 3 t + 1 ∧ ∀ i, i ≠ t → M' 3 i = M 3 i) ∧ (M' 4 (t * 6 + M 3 t) = n ∧ ∀ i, i ≠ t * 6 + M 3 t → M' 4 i = M 4 i) ∧ (∀ j, 0 ≤ j → j < n → M' 5 ((t * 6 + M 3 t) * 3 + j) = A j) ∧ ∀ i, ¬ ((t * 6 + M 3 t) * 3 ≤ i ∧ i < (t * 6 + M 3 t) * 3 + n) → M' 5 i = M 5 i
section CMK
variable {e : yE} {d : Nat} {M : xM}
theorem s_addMakerC {t n : Int} {A : Int → Int} {Q : Int → xM → Prop} (hs : CSh e) (h2 : 1 ≤ M 2 0 ∧ M 2 0 ≤ 8) (h3 : ∀ t, 0 ≤ t → t < 8 → 0 ≤ M 3 t ∧ M 3 t ≤ 6) (ht : rg t) (hn : rg n) (h58 : ∀ j, 0 ≤ j → j < 3 → M 58 j = A j) (hA : ∀ j, rg (A j))
    (hno : ¬ ((0 < t ∧ t < M 2 0) ∧ (0 ≤ n ∧ n ≤ 3) ∧ M 3 t < 6 ∧ ∀ j, 0 ≤ j → j < n → 0 ≤ A j ∧ A j < M 2 0) → Q (-1) M)
    (hok : (0 < t ∧ t < M 2 0) → (0 ≤ n ∧ n ≤ 3) → M 3 t < 6 → (∀ j, 0 ≤ j → j < n → 0 ≤ A j ∧ A j < M 2 0) → ∀ M', aMk M M' t n A → C_Ty_settlePlain e (d + 2) M' (fun M3 => Q (M 3 t) M3)) : C_Ty_addMaker e (d + 3) t n 58 3 M Q := by
  refine c_Ty_addMaker (c_Ty_addMaker_0 hs (caa_58 hs) (s_isTypeC hs ht ⟨by omega, by omega⟩ ⟨bI_rg, fun z => hno (fun u => bI_0.mp z ⟨by omega, by omega⟩), fun z => ?_⟩))
  have ht1 : 0 ≤ t ∧ t < M 2 0 := Classical.not_not.mp (fun u => z (bI_0.mpr u))
  have h3t := h3 t ht1.1 (by omega)
  refine ⟨ht, fun z0 => hno (fun u => by omega), fun z0 => ⟨hn, fun z1 => hno (fun u => by omega), fun z1 => ⟨hn, fun z2 => ⟨by omega, ⟨by omega, by omega⟩, fun z3 => hno (fun u => by omega), fun z3 => ?_⟩, fun z2 => hno (fun u => by omega)⟩⟩⟩
  have e58 : (∀ q, 0 ≤ q → q < n → 0 ≤ M 58 q ∧ M 58 q < M 2 0) ↔ (∀ j, 0 ≤ j → j < n → 0 ≤ A j ∧ A j < M 2 0) :=
    ⟨fun u j j0 j1 => by rw [← h58 j j0 (by omega)]; exact u j j0 j1, fun u j j0 j1 => by rw [h58 j j0 (by omega)]; exact u j j0 j1⟩
  refine s_areTypesC (d := d) hs (by omega) ⟨by omega, by omega⟩ (fun q q0 q1 => by rw [h58 q q0 (by omega)]; exact hA q) (fun y => ⟨⟨by omega, by omega⟩, fun _ => ?_, fun u => absurd (by decide) u⟩) (fun y => ⟨⟨by omega, by omega⟩, fun u => absurd rfl u, fun _ => hno (fun u => y (e58.mpr u.2.2.2))⟩)
  have y := e58.mp y
  refine ⟨by omega, by omega, fun M5 e5 => ?_⟩
  have key : ∀ (j x : Nat) (L : xM), (x : Int) + j = n → (∀ c, c ≠ 4 → c ≠ 5 → L c = M c) → L 4 = M5 4 → (∀ i, 0 ≤ i → i < (x : Int) → L 5 ((t * 6 + M 3 t) * 3 + i) = A i) → (∀ i, ¬ ((t * 6 + M 3 t) * 3 ≤ i ∧ i < (t * 6 + M 3 t) * 3 + x) → L 5 i = M 5 i) → C_Ty_addMaker_69 e (d + 2) 58 3 t n (M 3 t) x L Q := by
    intro j
    induction j with
    | zero =>
      intro x L hx b1 b2 b3 b4
      refine c_Ty_addMaker_69 hs (caa_58 hs) ⟨⟨⟨by omega, by omega⟩, ⟨by omega, by omega⟩⟩, fun _ => ⟨by omega, by omega, fun L1 e1 L2 e2 => ?_⟩, fun u => absurd (by omega) u⟩
      refine hok (by omega) (by omega) (by omega) y L2 ⟨fun c y2 y3 y4 y5 => ?_, ⟨?_, fun i hi => ?_⟩, ⟨?_, fun i hi => ?_⟩, ⟨?_, fun i hi => ?_⟩, fun i i0 i1 => ?_, fun i hi => ?_⟩
      · rw [e2, xrd y2, e1, xrd y3, b1 c y4 y5]
      · rw [e2, xrs, e1, xrd (by decide), b1 2 (by decide) (by decide)]
      · rw [e2, xri hi, e1, xrd (by decide), b1 2 (by decide) (by decide)]
      · rw [e2, xrd (by decide), e1, xrs, b1 3 (by decide) (by decide)]
      · rw [e2, xrd (by decide), e1, xri hi, b1 3 (by decide) (by decide)]
      · rw [e2, xrd (by decide), e1, xrd (by decide), b2, e5, xrs]
      · rw [e2, xrd (by decide), e1, xrd (by decide), b2, e5, xri hi]
      · rw [e2, xrd (by decide), e1, xrd (by decide)]; exact b3 i i0 (by omega)
      · rw [e2, xrd (by decide), e1, xrd (by decide)]; exact b4 i (by omega)
    | succ j ih =>
      intro x L hx b1 b2 b3 b4
      refine c_Ty_addMaker_69 hs (caa_58 hs) ⟨⟨⟨by omega, by omega⟩, ⟨by omega, by omega⟩⟩, fun u => absurd u (by omega), fun _ => ⟨by omega, by omega, fun L1 e1 => ?_⟩⟩
      rw [b1 58 (by decide) (by decide), h58 x (by omega) (by omega)] at e1
      refine ih (x + 1) L1 (by omega) (fun c y4 y5 => by rw [e1, xrd y5, b1 c y4 y5]) (by rw [e1, xrd (by decide)]; exact b2) (fun i i0 i1 => ?_) (fun i hi => by rw [e1, xri (by omega)]; exact b4 i (by omega))
      rw [e1]
      by_cases w : i = x
      · rw [w, xrs]
      · rw [xri (by omega)]; exact b3 i i0 (by omega)
  exact key n.toNat 0 M5 (by omega) (fun c y4 y5 => by rw [e5, xrd y4]) rfl (fun i i0 i1 => by omega) (fun i _ => by rw [e5, xrd (by decide)])
end CMK
