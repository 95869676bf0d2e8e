/-! ===== both sides answer alike: maker, the answer ===== -/
section OPS
variable {e : yE} {d : Nat} {M : xM}
theorem rMk_ex {t n a b c : Int} : ∃ D, rMk M D t n (fun q => pk3 q a b c) := by
  refine ⟨xup (xup (xup (xup (xup M 61 (6 * t + M 60 t) n) 62 (3 * (6 * t + M 60 t)) a) 62 (3 * (6 * t + M 60 t) + 1) b) 62 (3 * (6 * t + M 60 t) + 2) c) 60 t (M 60 t + 1), fun q y0 y1 y2 y3 => by rw [xrd y1, xrd y3, xrd y3, xrd y3, xrd y2], fun i hi => by rw [xrd (by decide), xrd (by decide), xrd (by decide), xrd (by decide), xrd (by decide)], ⟨by rw [xrs], fun i hi => by rw [xri hi, xrd (by decide), xrd (by decide), xrd (by decide), xrd (by decide)]⟩, ⟨by rw [xrd (by decide), xrd (by decide), xrd (by decide), xrd (by decide), xrs], fun i hi => by rw [xrd (by decide), xrd (by decide), xrd (by decide), xrd (by decide), xri hi]⟩, fun j j0 j1 => ?_, fun i hi => ?_⟩
  · have : j = 0 ∨ j = 1 ∨ j = 2 := by omega
    rcases this with y | y | y
    · rw [y, xrd (by decide), xri (by omega), xri (by omega), show 3 * (6 * t + M 60 t) + 0 = 3 * (6 * t + M 60 t) by omega, xrs]; rfl
    · rw [y, xrd (by decide), xri (by omega), xrs]; rfl
    · rw [y, xrd (by decide), xrs]; rfl
  · rw [xrd (by decide), xri (by omega), xri (by omega), xri (by omega), xrd (by decide)]
theorem op_maker {t n a b c : Int} (hR : Rel e M) (hd : 1200 ≤ d) (ht : rg t) (hn : rg n) (habc : rg a ∧ rg b ∧ rg c) : C_Mf_maker e d t n a b c M (fun y M1 => R_maker e d t n a b c M1 (fun y2 M2 => y = y2 ∧ rg y ∧ Rel e M2 ∧ M2 0 = M 0)) := by
  have hR' := hR
  obtain ⟨cs, cl, ⟨s1, s2, s3, s4, s5, s6, s7⟩, hr, hw, htl, hx, hro⟩ := hR'
  obtain ⟨d, rfl⟩ : ∃ d', d = d' + 20 := ⟨d - 20, by omega⟩
  obtain ⟨t1, t2, t3, t4, t5, t6, t7, t8⟩ := s4
  have hwt := hr.1.2.1
  have h8 := hwt.1
  have h10 := hr.1.2.2.1.1
  have h18 := hr.1.1.1
  have h25 := hr.2.1
  have e81 : M 8 1 = M 59 10 := t5.1
  have e181 : M 18 1 = M 59 18 := t7.2.2.1
  have e14 : M 1 4 = M 59 25 := t6
  have hpr : ∀ q, rg (pk3 q a b c) := fun q => by unfold pk3; split; exact habc.1; split; exact habc.2.1; exact habc.2.2
  have hno : ∀ M1 : xM, (∀ j, j ≠ 58 → M1 j = M j) → ¬ ((0 < t ∧ t < M 59 1) ∧ (0 ≤ n ∧ n ≤ 3) ∧ M 60 t < 6 ∧ (M 59 10 = 0 ∧ M 59 18 = 0 ∧ M 59 25 = 0) ∧ ∀ j, 0 ≤ j → j < n → 0 ≤ pk3 j a b c ∧ pk3 j a b c < M 59 1) → R_maker e (d + 20) t n a b c M1 (fun y2 M2 => -1 = y2 ∧ rg (-1) ∧ Rel e M2 ∧ M2 0 = M 0) := by
    intro M1 g z
    obtain ⟨n1, n2⟩ := rel_58 hR g
    have k59 : M1 59 = M 59 := g 59 (by decide)
    have w1 : wfT M1 := by
      unfold wfT at *
      rw [k59, g 60 (by decide), g 61 (by decide), g 62 (by decide)]; exact hwt
    refine s_maker_r (d := d + 16) s2 w1 (by rw [k59]; exact h10) (by rw [k59]; exact h18) (by rw [k59]; exact h25) (by rw [g 63 (by decide)]; exact hx.1.1) ht hn habc (fun _ => ⟨rfl, ⟨by omega, by omega⟩, n1, n2⟩) (fun y1 y2 y3 y4 y5 => ?_)
    exfalso
    rw [k59] at y1 y4 y5
    rw [g 60 (by decide)] at y3
    exact z ⟨y1, y2, y3, y4, y5⟩
  refine c_Mf_maker (c_Mf_maker_0 s1 ?_)
  rw [e81, e181, e14]
  refine ⟨⟨by omega, by omega⟩, fun z => hno M (fun _ _ => rfl) (fun u => by have := u.2.2.2.1; omega), fun z1 => ⟨⟨by omega, by omega⟩, fun z => hno M (fun _ _ => rfl) (fun u => by have := u.2.2.2.1; omega), fun z2 => ⟨⟨by omega, by omega⟩, fun z3 => ?_, fun z => hno M (fun _ _ => rfl) (fun u => by have := u.2.2.2.1; omega)⟩⟩⟩
  have hz : M 59 10 = 0 ∧ M 59 18 = 0 ∧ M 59 25 = 0 := by omega
  refine s_giveC (d := d + 18) s1 (fun M1 g1 g58 => ?_)
  have q2 : M1 2 = M 2 := g1 2 (by decide)
  have q3 : M1 3 = M 3 := g1 3 (by decide)
  have e20 : M 2 0 = M 59 1 := t3.1
  have h3 : ∀ u, 0 ≤ u → u < 8 → 0 ≤ M1 3 u ∧ M1 3 u ≤ 6 := fun u u0 u1 => by rw [q3, t3.2.1 u u0 u1]; exact hwt.2.1 u u0 u1
  refine s_addMakerC (d := d + 16) (A := fun q => pk3 q a b c) s1 (by rw [q2, e20]; exact h8) h3 ht hn g58 hpr (fun z => hno M1 g1 (fun u => z ⟨by rw [q2, e20]; exact u.1, u.2.1, ?_, by rw [q2, e20]; exact u.2.2.2.2⟩)) (fun y1 y2 y3 y4 Ma hC => ?_)
  · rw [q3, t3.2.1 t (by omega) (by omega)]; exact u.2.2.1
  · rw [q2, e20] at y1 y4
    rw [q3, t3.2.1 t (by omega) (by omega)] at y3 ⊢
    obtain ⟨D0, hD0⟩ := rMk_ex (M := M) (t := t) (n := n) (a := a) (b := b) (c := c)
    have hwD := wfT_mk hwt hD0 y1 y2 y3 y4
    have eT := hD0.2.1 1 (by decide)
    have hI0 := szI_mk hwt hx hD0 y1 y3
    obtain ⟨s, hS, hL⟩ := sol_ex (by rw [eT]; exact h8.2) hwD.2.2.2 (msF (M 63) 7).toNat (M 63) hI0 (by omega)
    -- the class's tables against those
    have hC' : aMk (fun c => if c = 58 then M 58 else M1 c) (fun c => if c = 58 then M 58 else Ma c) t n (fun q => pk3 q a b c) := by
      obtain ⟨c1, c2, c3, c4, c5, c6⟩ := hC
      exact ⟨fun c k2 k3 k4 k5 => by
        by_cases z : c = 58
        · show (if c = 58 then M 58 else Ma c) = (if c = 58 then M 58 else M1 c); rw [if_pos z, if_pos z]
        · show (if c = 58 then M 58 else Ma c) = (if c = 58 then M 58 else M1 c); rw [if_neg z, if_neg z]; exact c1 c k2 k3 k4 k5, c2, c3, c4, c5, c6⟩
    have eM : (fun c => if c = 58 then M 58 else M1 c) = M := funext fun c => by
      by_cases z : c = 58
      · show (if c = 58 then M 58 else M1 c) = M c; rw [if_pos z, z]
      · show (if c = 58 then M 58 else M1 c) = M c; rw [if_neg z]; exact g1 c z
    rw [eM] at hC'
    have hY0 := tCl_mk hwt t3 y1 y2 y3 hC' hD0
    have hY : tCl Ma D0 := hY0
    have a6 : Ma 6 = M 6 := by rw [hC.1 6 (by decide) (by decide) (by decide) (by decide), g1 6 (by decide)]
    have hIa : szI D0 (Ma 6) := szI_cg (by rw [eT]; exact h8.2) hwD.2.2.2 (fun u u0 u1 => by rw [a6]; exact t8.1 u u0 u1) hI0
    refine s_settle (d := d + 11) s1 hwD hS hL hY hIa (fun Mb k1 k2 k3 k4 => ?_)
    have lo : ∀ j, 59 ≤ j → Mb j = M j := fun j y0 => by rw [k1 j (by omega) (by omega), hC.1 j (by omega) (by omega) (by omega) (by omega), g1 j (by omega)]
    have w1 : wfT Mb := by
      unfold wfT at *
      rw [lo 59 (by omega), lo 60 (by omega), lo 61 (by omega), lo 62 (by omega)]; exact hwt
    have ht6 := hwt.2.1 t (by omega) (by omega)
    refine s_maker_r (d := d + 16) s2 w1 (by rw [lo 59 (by omega)]; exact h10) (by rw [lo 59 (by omega)]; exact h18) (by rw [lo 59 (by omega)]; exact h25) (by rw [lo 63 (by omega)]; exact hx.1.1) ht hn habc (fun z => ?_) (fun _ _ _ _ _ D M2 hD m1 m2 m3 => ?_)
    · exfalso
      rw [lo 59 (by omega), lo 60 (by omega)] at z
      exact z ⟨y1, y2, y3, hz, y4⟩
    · rw [lo 60 (by omega)]
      exact ⟨rfl, ⟨by omega, by omega⟩, rel_maker (M0 := M1) (Ma := Ma) (Mb := Mb) (D := D) (D0 := D0) (s := s) hR y1 y2 y3 hz y4 g1 hC hD0 hS hL k1 k2 k3 k4 hD m1 m2 m3⟩
end OPS
