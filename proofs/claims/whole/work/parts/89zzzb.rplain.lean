/-! ===== the reference: findPlains ===== -/
section RPL
variable {e : yE} {d : Nat} {D : xM}
theorem mz_s {M : xM} {f : Int → Int} {t k : Int} (h : ∀ c, c ≠ 63 → M c = D c) : mz M f t k = mz D f t k := by
  unfold mz; rw [h 61 (by decide), h 62 (by decide)]
/-- one round -/
theorem s_fp31 {M0 : xM} {Q : xM → Prop} (hs : RSh e) (h1 : 1 ≤ D 59 1 ∧ D 59 1 ≤ 8) (h60 : ∀ t, 0 ≤ t → t < 8 → 0 ≤ D 60 t ∧ D 60 t ≤ 6) (ho : okM D)
    (hc : ∀ M, (∀ c, c ≠ 63 → M c = D c) → szI D (M 63) → msF (M 63) 7 < msF (M0 63) 7 → R_findPlains_23 e (d + 1) 1 M Q)
    (hn : solL D (M0 63) → R_findPlains_23 e (d + 1) 0 M0 Q) (hM0 : ∀ c, c ≠ 63 → M0 c = D c) (hI0 : szI D (M0 63)) : R_findPlains_31 e (d + 1) 0 1 M0 Q := by
  -- what has been looked at
  have key : ∀ (j : Nat) (x : Nat) (M : xM) (c : Int), (x : Int) + j = D 59 1 → 1 ≤ x → (∀ c, c ≠ 63 → M c = D c) → szI D (M 63) → ((c = 0 ∧ M = M0 ∧ ∀ t, 0 < t → t < (x : Int) → ∀ k, 0 ≤ k → k < D 60 t → 0 < mz D (M0 63) t k → 0 < M0 63 t ∧ M0 63 t ≤ mz D (M0 63) t k) ∨ (c = 1 ∧ msF (M 63) 7 < msF (M0 63) 7)) → R_findPlains_31 e (d + 1) c x M Q := by
    intro j
    induction j with
    | zero =>
      intro x M c hx x1 hM hI hs'
      refine t_findPlains_31 hs ?_
      rw [hM 59 (by decide)]
      refine ⟨⟨⟨by omega, by omega⟩, ⟨by omega, by omega⟩⟩, fun _ => ?_, fun z => absurd (by omega) z⟩
      rcases hs' with ⟨rfl, rfl, g⟩ | ⟨rfl, g⟩
      · exact hn (fun t t0 t1 => g t t0 (by omega))
      · exact hc M hM hI g
    | succ j ih =>
      intro x M c hx x1 hM hI hs'
      refine t_findPlains_31 hs ?_
      rw [hM 59 (by decide)]
      refine ⟨⟨⟨by omega, by omega⟩, ⟨by omega, by omega⟩⟩, fun z => absurd z (by omega), fun _ => ?_⟩
      have h6 := h60 x (by omega) (by omega)
      -- the makers of x
      have mk : ∀ (i y : Nat) (M : xM) (c : Int), (y : Int) + i = D 60 x → (∀ c, c ≠ 63 → M c = D c) → szI D (M 63) → ((c = 0 ∧ M = M0 ∧ (∀ t, 0 < t → t < (x : Int) → ∀ k, 0 ≤ k → k < D 60 t → 0 < mz D (M0 63) t k → 0 < M0 63 t ∧ M0 63 t ≤ mz D (M0 63) t k) ∧ ∀ k, 0 ≤ k → k < (y : Int) → 0 < mz D (M0 63) x k → 0 < M0 63 x ∧ M0 63 x ≤ mz D (M0 63) x k) ∨ (c = 1 ∧ msF (M 63) 7 < msF (M0 63) 7)) → R_findPlains_41 e (d + 1) c x y M Q := by
        intro i
        induction i with
        | zero =>
          intro y M c hy hM hI hs'
          refine t_findPlains_41 hs ⟨by omega, ?_⟩
          rw [hM 60 (by decide)]
          refine ⟨⟨⟨by omega, by omega⟩, ⟨by omega, by omega⟩⟩, fun _ => ih (x + 1) M c (by omega) (by omega) hM hI ?_, fun z => absurd (by omega) z⟩
          rcases hs' with ⟨g1, g2, g3, g4⟩ | g
          · refine Or.inl ⟨g1, g2, fun t t0 t1 k k0 k1 => ?_⟩
            by_cases z : t = x
            · rw [z] at k1 ⊢; exact g4 k k0 (by omega)
            · exact g3 t t0 (by omega) k k0 k1
          · exact Or.inr g
        | succ i ihi =>
          intro y M c hy hM hI hs'
          obtain ⟨n3, np⟩ := ho x y (by omega) (by omega) (by omega) (by omega)
          have hb := szI_b hI
          refine t_findPlains_41 hs ⟨by omega, ?_⟩
          rw [hM 60 (by decide)]
          refine ⟨⟨⟨by omega, by omega⟩, ⟨by omega, by omega⟩⟩, fun z => absurd z (by omega), fun _ => s_madeSize hs (by omega) (by rw [hM 61 (by decide)]; exact n3) (fun j j0 j1 => ?_) ?_⟩
          · rw [hM 61 (by decide)] at j1
            rw [hM 62 (by decide)]
            have a := np j j0 j1
            have b := hb _ a.1 (by omega)
            exact ⟨⟨a.1, by omega⟩, ⟨by omega, by omega⟩⟩
          · rw [mSz_mz (by rw [hM 61 (by decide)]; exact n3), mz_s hM]
            have hm := mz_b (B := 3280) n3 (fun j j0 j1 => hb _ (np j j0 j1).1 (by have := (np j j0 j1).2; omega)) (by decide)
            have bx := hb x (by omega) (by omega)
            -- nothing better
            have skip : (0 < mz D (M 63) x y → 0 < M 63 x ∧ M 63 x ≤ mz D (M 63) x y) → R_findPlains_41 e (d + 1) c x ((y : Int) + 1) M Q := by
              intro hsk
              refine ihi (y + 1) M c (by omega) hM hI ?_
              rcases hs' with ⟨g1, g2, g3, g4⟩ | g
              · refine Or.inl ⟨g1, g2, g3, fun k k0 k1 => ?_⟩
                by_cases z : k = y
                · rw [z, ← g2]; exact hsk
                · exact g4 k k0 (by omega)
              · exact Or.inr g
            have take : 0 < mz D (M 63) x y → (M 63 x = 0 ∨ mz D (M 63) x y < M 63 x) → R_findPlains_84 e (d + 1) x y (mz D (M 63) x y) M Q := by
              intro hp hbt
              refine t_findPlains_84 hs ⟨by omega, fun M1 e1 => ?_⟩
              have u := szI_up (f := M 63) (f' := M1 63) (y := mz D (M 63) x y) h1.2 ho hI (by omega) (by omega) (by omega) (by omega) rfl hp hbt (by rw [e1, xrs]) (fun u hu => by rw [e1, xri hu])
              refine ihi (y + 1) M1 1 (by omega) (fun c hc => by rw [e1, xrd hc]; exact hM c hc) u.1 (Or.inr ⟨rfl, ?_⟩)
              rcases hs' with ⟨-, g2, -⟩ | g
              · rw [← g2]; exact u.2
              · have := u.2; omega
            refine ⟨⟨by omega, by omega⟩, fun z => skip (fun w => absurd w (by omega)), fun z => ⟨by omega, ⟨by omega, by omega⟩, fun w => take (by omega) (Or.inl w), fun w => ⟨by omega, ⟨⟨by omega, by omega⟩, ⟨by omega, by omega⟩⟩, fun v => skip (fun _ => ⟨by omega, v⟩), fun v => take (by omega) (Or.inr (by omega))⟩⟩⟩
      refine mk (D 60 x).toNat 0 M c (by omega) hM hI ?_
      rcases hs' with ⟨g1, g2, g3⟩ | g
      · exact Or.inl ⟨g1, g2, g3, fun k k0 k1 => by omega⟩
      · exact Or.inr g
  exact key (D 59 1 - 1).toNat 1 M0 0 (by omega) (Nat.le_refl _) hM0 hI0 (Or.inl ⟨rfl, rfl, fun t t0 t1 => by omega⟩)
theorem s_findPlains {M : xM} {Q : xM → Prop} (hs : RSh e) (h1 : 1 ≤ D 59 1 ∧ D 59 1 ≤ 8) (h60 : ∀ t, 0 ≤ t → t < 8 → 0 ≤ D 60 t ∧ D 60 t ≤ 6) (ho : okM D) (hM : ∀ c, c ≠ 63 → M c = D c) (hf0 : M 63 0 = 1)
    (h : ∀ M', (∀ c, c ≠ 63 → M' c = D c) → szI D (M' 63) → solL D (M' 63) → Q M') : R_findPlains e (d + 2) M Q := by
  have loop : ∀ (n : Nat) (M : xM), (∀ c, c ≠ 63 → M c = D c) → szI D (M 63) → msF (M 63) 7 ≤ (n : Int) → R_findPlains_23 e (d + 1) 1 M Q := by
    intro n
    induction n with
    | zero =>
      intro M hM hI hm
      refine t_findPlains_23 hs ⟨⟨by omega, by omega⟩, fun z => absurd z (by decide), fun _ => ?_⟩
      refine s_fp31 hs h1 h60 ho (fun M1 a1 a2 a3 => ?_) (fun hL => t_findPlains_23 hs ⟨⟨by omega, by omega⟩, fun _ => h M hM hI hL, fun z => absurd rfl z⟩) hM hI
      have := (msF_nn (f := M1 63) (fun u u0 u1 => by have := szI_b a2 u u0 u1; omega) 7 (by decide)).1
      omega
    | succ n ih =>
      intro M hM hI hm
      refine t_findPlains_23 hs ⟨⟨by omega, by omega⟩, fun z => absurd z (by decide), fun _ => ?_⟩
      exact s_fp31 hs h1 h60 ho (fun M1 a1 a2 a3 => ih M1 a1 a2 (by omega)) (fun hL => t_findPlains_23 hs ⟨⟨by omega, by omega⟩, fun _ => h M hM hI hL, fun z => absurd rfl z⟩) hM hI
  have clr : ∀ (j x : Nat) (M : xM), x + j = 8 → 1 ≤ x → (∀ c, c ≠ 63 → M c = D c) → M 63 0 = 1 → (∀ u, 0 < u → u < (x : Int) → M 63 u = 0) → R_findPlains_2 e (d + 1) x M Q := by
    intro j
    induction j with
    | zero =>
      intro x M hx x1 hM h0 hz
      refine t_findPlains_2 hs ⟨⟨by omega, by omega⟩, fun _ => ?_, fun z => absurd (by omega) z⟩
      have hz7 : ∀ u, 0 < u → u < 8 → M 63 u = 0 := fun u u0 u1 => hz u u0 (by omega)
      have hI : szI D (M 63) := by
        refine ⟨h0, fun u u0 u1 => ?_, fun u u0 u1 => ?_, fun t t0 t1 hp => ?_, fun u u0 u1 => hz7 u (by omega) u1⟩
        · by_cases z : u = 0
          · rw [z, h0]; decide
          · rw [hz7 u (by omega) u1]; decide
        · have b1 := (Bq_mono (Nat.le_refl (cpF (M 63) 7))).2
          by_cases z : u = 0
          · rw [z, h0]; exact b1
          · rw [hz7 u (by omega) u1]; omega
        · rw [hz7 t t0 (by omega)] at hp; omega
      exact loop (msF (M 63) 7).toNat M hM hI (by omega)
    | succ j ih =>
      intro x M hx x1 hM h0 hz
      refine t_findPlains_2 hs ⟨⟨by omega, by omega⟩, fun z => absurd z (by omega), fun _ => ⟨by omega, fun M1 e1 => ?_⟩⟩
      refine ih (x + 1) M1 (by omega) (by omega) (fun c hc => by rw [e1, xrd hc]; exact hM c hc) (by rw [e1, xri (by omega)]; exact h0) (fun u u0 u1 => ?_)
      rw [e1]
      by_cases z : u = x
      · rw [z, xrs]
      · rw [xri z]; exact hz u u0 (by omega)
  exact t_findPlains (t_findPlains_0 hs (clr 7 1 M rfl (Nat.le_refl _) hM hf0 (fun u u0 u1 => by omega)))
end RPL
