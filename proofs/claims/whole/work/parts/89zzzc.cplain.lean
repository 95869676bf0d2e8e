/-! ===== the class: sizes of plain values ===== -/
/-- the best so far: a size, and the first maker that reaches it -/
def bst (D : xM) (f : Int → Int) (t n v q : Int) : Prop := (v = 0 ∧ ∀ k, 0 ≤ k → k < n → mz D f t k = 0) ∨ (0 < v ∧ ((0 ≤ q ∧ q < n) ∧ mz D f t q = v ∧ ∀ k, 0 ≤ k → k < q → mz D f t k ≠ v) ∧ ∀ k, 0 ≤ k → k < n → 0 < mz D f t k → v ≤ mz D f t k)
section CPL
variable {e : yE} {d : Nat} {D M : xM}
theorem s_smallestC {t k : Int} {Q : Int → xM → Prop} (hs : CSh e) (hwt : wfT D) (hY : tCl M D) (t0 : 0 < t) (t1 : t < D 59 1) (k0 : 0 ≤ k) (k1 : k < D 60 t) (hf : ∀ u, 0 ≤ u → u < 8 → 0 ≤ M 6 u ∧ M 6 u ≤ 3280) (h : Q (mz D (M 6) t k) M) : C_Ty_smallestBy e (d + 4) t k M Q := by
  have h8 := hwt.1
  have h6 := hwt.2.1 t (by omega) (by omega)
  obtain ⟨n3, np⟩ := hwt.2.2.2 t k (by omega) t1 k0 k1
  have en : nPs D t k = D 61 (6 * t + k) := by unfold nPs; rw [if_neg (by omega)]
  obtain ⟨p, ep⟩ : ∃ p : Int → Int, p = fun j => D 62 (3 * (6 * t + k) + j) := ⟨_, rfl⟩
  have ep' : ∀ j, D 62 (3 * (6 * t + k) + j) = p j := fun j => by rw [ep]
  have key : ∀ (j x : Nat), (x : Int) + j = D 61 (6 * t + k) → (∀ i, 0 ≤ i → i < (x : Int) → 0 < M 6 (p i)) → (1 ≤ smW (M 6) p x ∧ smW (M 6) p x ≤ 1 + 3280 * x) → C_Ty_smallestBy_5 e (d + 3) t k (smW (M 6) p x) x M Q := by
    intro j
    induction j with
    | zero =>
      intro x hx g hb
      refine c_Ty_smallestBy_5 hs (s_partsOf (d := d) hs hwt hY ⟨by omega, t1⟩ ⟨by omega, by omega⟩ (fun _ => ⟨k0, k1⟩) ?_)
      rw [en]
      refine ⟨⟨⟨by omega, by omega⟩, ⟨by omega, by omega⟩⟩, fun _ => ?_, fun z => absurd (by omega) z⟩
      have : mz D (M 6) t k = smW (M 6) p x := by
        rw [mz_pos n3 (fun i i0 i1 => by rw [ep']; exact g i i0 (by omega)), ep', ep', ep', ← smW_3 n3, show (D 61 (6 * t + k)).toNat = x by omega]
      rw [← this]; exact h
    | succ j ih =>
      intro x hx g hb
      have npx := np x (by omega) (by omega)
      rw [ep'] at npx
      have hfx := hf (p x) npx.1 (by omega)
      refine c_Ty_smallestBy_5 hs (s_partsOf (d := d) hs hwt hY ⟨by omega, t1⟩ ⟨by omega, by omega⟩ (fun _ => ⟨k0, k1⟩) ?_)
      rw [en]
      refine ⟨⟨⟨by omega, by omega⟩, ⟨by omega, by omega⟩⟩, fun z => absurd z (by omega), fun _ => c_Ty_partTypeOf (c_Ty_partTypeOf_0 hs ⟨by omega, ?_⟩)⟩
      rw [(hY.2.2 t k (by omega) t1 k0 k1).2 x (by omega) (by omega), ep']
      refine ⟨by omega, ⟨by omega, by omega⟩, fun z => ?_, fun z => ?_⟩
      · exact ih (x + 1) (by omega) (fun i i0 i1 => by
          by_cases y : i = x
          · rw [y]; omega
          · exact g i i0 (by omega)) ⟨by show 1 ≤ smW (M 6) p x + M 6 (p x); omega, by show smW (M 6) p x + M 6 (p x) ≤ 1 + 3280 * ((x + 1 : Nat) : Int); omega⟩
      · have z := Classical.not_not.mp z
        have : mz D (M 6) t k = 0 := by
          refine Classical.byContradiction (fun u => ?_)
          have hp : 0 < mz D (M 6) t k := by
            have := (mz_b (B := 3280) n3 (fun j j0 j1 => hf _ (np j j0 j1).1 (by have := (np j j0 j1).2; omega)) (by decide)).1
            omega
          have := mz_in n3 (fun j j0 j1 => (hf _ (np j j0 j1).1 (by have := (np j j0 j1).2; omega)).1) hp x (by omega) (by omega)
          rw [ep'] at this
          omega
        rw [← this]; exact h
  exact c_Ty_smallestBy (c_Ty_smallestBy_0 hs (key (D 61 (6 * t + k)).toNat 0 (by omega) (fun i i0 i1 => by omega) ⟨by show (1 : Int) ≤ 1; decide, by show (1 : Int) ≤ 1 + 3280 * ((0 : Nat) : Int); decide⟩))
theorem s_plainOfC {t : Int} {Q : xM → Prop} (hs : CSh e) (hwt : wfT D) (hY : tCl M D) (t0 : 0 < t) (t1 : t < D 59 1) (hf : ∀ u, 0 ≤ u → u < 8 → 0 ≤ M 6 u ∧ M 6 u ≤ 3280) (h : ∀ M', (∀ c, c ≠ 6 → c ≠ 7 → M' c = M c) → (∀ u, u ≠ t → M' 6 u = M 6 u) → (∀ u, u ≠ t → M' 7 u = M 7 u) → bst D (M 6) t (D 60 t) (M' 6 t) (M' 7 t) → Q M') : C_Ty_settlePlainOf e (d + 6) t M Q := by
  have h8 := hwt.1
  have h6 := hwt.2.1 t (by omega) (by omega)
  have key : ∀ (j x : Nat) (v : Int) (L : xM), (x : Int) + j = D 60 t → (∀ c, c ≠ 7 → L c = M c) → (∀ u, u ≠ t → L 7 u = M 7 u) → bst D (M 6) t x v (L 7 t) → (0 ≤ v ∧ v ≤ 10000) → C_Ty_settlePlainOf_4 e (d + 5) t v x L Q := by
    intro j
    induction j with
    | zero =>
      intro x v L hx b1 b2 b3 hv
      refine c_Ty_settlePlainOf_4 hs ⟨by omega, ?_⟩
      rw [b1 3 (by decide), hY.2.1 t (by omega) (by omega)]
      refine ⟨⟨⟨by omega, by omega⟩, ⟨by omega, by omega⟩⟩, fun _ => ⟨by omega, fun M1 e1 => h M1 (fun c y1 y2 => by rw [e1, xrd y1, b1 c y2]) (fun u hu => by rw [e1, xri hu, b1 6 (by decide)]) (fun u hu => by rw [e1, xrd (by decide)]; exact b2 u hu) ?_⟩, fun z => absurd (by omega) z⟩
      rw [show M1 6 t = v by rw [e1, xrs], show M1 7 t = L 7 t by rw [e1, xrd (by decide)], show D 60 t = x by omega]; exact b3
    | succ j ih =>
      intro x v L hx b1 b2 b3 hv
      obtain ⟨n3, np⟩ := hwt.2.2.2 t x (by omega) t1 (by omega) (by omega)
      have hm := mz_b (D := D) (f := M 6) (t := t) (k := x) (B := 3280) n3 (fun j j0 j1 => hf _ (np j j0 j1).1 (by have := (np j j0 j1).2; omega)) (by decide)
      have l6 : L 6 = M 6 := b1 6 (by decide)
      -- not better
      have skip : (0 < mz D (M 6) t x → 0 < v ∧ v ≤ mz D (M 6) t x) → C_Ty_settlePlainOf_4 e (d + 5) t v ((x : Int) + 1) L Q := by
        intro hsk
        refine ih (x + 1) v L (by omega) b1 b2 ?_ hv
        rcases b3 with ⟨g1, g2⟩ | ⟨g1, g2, g3⟩
        · refine Or.inl ⟨g1, fun k k0 k1 => ?_⟩
          by_cases z : k = x
          · rw [z]
            refine Classical.byContradiction (fun u => ?_)
            have := hsk (by omega); omega
          · exact g2 k k0 (by omega)
        · refine Or.inr ⟨g1, ⟨⟨g2.1.1, by omega⟩, g2.2⟩, fun k k0 k1 hk => ?_⟩
          by_cases z : k = x
          · rw [z] at hk ⊢; exact (hsk hk).2
          · exact g3 k k0 (by omega) hk
      have take : 0 < mz D (M 6) t x → (v = 0 ∨ mz D (M 6) t x < v) → C_Ty_settlePlainOf_37 e (d + 5) t x (mz D (M 6) t x) L Q := by
        intro hp hb
        refine c_Ty_settlePlainOf_37 hs ⟨by omega, fun L1 e1 => ?_⟩
        refine ih (x + 1) (mz D (M 6) t x) L1 (by omega) (fun c hc => by rw [e1, xrd hc, b1 c hc]) (fun u hu => by rw [e1, xri hu]; exact b2 u hu) ?_ (by omega)
        rw [show L1 7 t = (x : Int) by rw [e1, xrs]]
        refine Or.inr ⟨hp, ⟨⟨by omega, by omega⟩, rfl, fun k k0 k1 => ?_⟩, fun k k0 k1 hk => ?_⟩
        · rcases b3 with ⟨g1, g2⟩ | ⟨g1, g2, g3⟩
          · rw [g2 k k0 k1]; omega
          · intro u
            have := g3 k k0 k1 (by omega)
            omega
        · by_cases z : k = x
          · rw [z]; exact Int.le_refl _
          · rcases b3 with ⟨g1, g2⟩ | ⟨g1, g2, g3⟩
            · have := g2 k k0 (by omega); omega
            · have := g3 k k0 (by omega) hk; omega
      refine c_Ty_settlePlainOf_4 hs ⟨by omega, ?_⟩
      rw [b1 3 (by decide), hY.2.1 t (by omega) (by omega)]
      refine ⟨⟨⟨by omega, by omega⟩, ⟨by omega, by omega⟩⟩, fun z => absurd z (by omega), fun _ => s_smallestC (D := D) (d := d + 1) hs hwt (tCl_cg (b1 2 (by decide)) (b1 3 (by decide)) (b1 4 (by decide)) (b1 5 (by decide)) hY) t0 t1 (by omega) (by omega) (by rw [l6]; exact hf) ?_⟩
      rw [l6]
      exact ⟨⟨by omega, by omega⟩, fun z => skip (fun u => by omega), fun z => ⟨⟨by omega, by omega⟩, fun w => take (by omega) (Or.inl w), fun w => ⟨⟨⟨by omega, by omega⟩, ⟨by omega, by omega⟩⟩, fun u => skip (fun _ => ⟨by omega, u⟩), fun u => take (by omega) (Or.inr (by omega))⟩⟩⟩
  exact c_Ty_settlePlainOf (c_Ty_settlePlainOf_0 hs (key (D 60 t).toNat 0 0 M (by omega) (fun _ _ => rfl) (fun _ _ => rfl) (Or.inl ⟨rfl, fun k k0 k1 => by omega⟩) (by omega)))
end CPL
