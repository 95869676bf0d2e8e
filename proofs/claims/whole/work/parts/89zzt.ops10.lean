/-! ===== both sides answer alike: row, through ===== -/
section ROX
variable {e : yE} {d : Nat} {M : xM}
theorem op_row {m a b c g1 g2 : Int} (hR : Rel e M) (hd : 1200 ≤ d) (hm : rg m) (habc : rg a ∧ rg b ∧ rg c) (hg1 : rg g1) (hg2 : rg g2) : C_Mf_row e d m a b c g1 g2 M (fun y M1 => R_row e d m a b c g1 g2 M1 (fun y2 M2 => y = y2 ∧ rg y ∧ Rel e M2 ∧ M2 0 = M 0)) := by
  have hR' := hR
  obtain ⟨cs, cl, h1, hr, hw, htl, hxx, hro⟩ := hR'
  obtain ⟨d, rfl⟩ : ∃ d', d = d' + 9 := ⟨d - 9, by omega⟩
  have h1' := h1
  obtain ⟨s1, s2, s3, s4, s5, s6, s7⟩ := h1'
  have hr' := hr
  obtain ⟨⟨gp, gt, gv, gb, ge⟩, h20, hall, hVV, h9⟩ := hr'
  have e14 : M 1 4 = M 59 25 := s4.2.2.2.2.2.1
  have t7 := s4.2.2.2.2.2.2.1
  obtain ⟨e180, e181, tP⟩ := t7.2
  have hP := gp.1
  have h8 := gt.1
  have hpr : ∀ q, rg (pk3 q a b c) := fun q => by unfold pk3; split; exact habc.1; split; exact habc.2.1; exact habc.2.2
  -- nothing comes of it
  have hno : ∀ M1 : xM, (∀ j, j ≠ 58 → M1 j = M j) → ¬ ((0 ≤ m ∧ m < M 59 25) ∧ rwC M m (fun q => pk3 q a b c) g1 g2) → R_row e (d + 9) m a b c g1 g2 M1 (fun y2 M2 => -1 = y2 ∧ rg (-1) ∧ Rel e M2 ∧ M2 0 = M 0) := by
    intro M1 g z
    obtain ⟨n1, n2⟩ := rel_58 hR g
    have kk : rKp M M1 := ⟨fun cc c0 c1 => g cc (by omega), by rw [g 59 (by decide)], by rw [g 59 (by decide)], by rw [g 59 (by decide)], by rw [g 59 (by decide)]⟩
    have r3 := rOK_s hr kk (g 96 (by decide)) (g 97 (by decide)) (g 98 (by decide))
    refine s_row_r s2 r3 (rfX_k kk hxx) hm habc hg1 hg2 (by omega) (fun _ => ⟨rfl, ⟨by omega, by omega⟩, n1, n2⟩) (fun y1 y2 => ?_)
    exfalso
    have nb : ∀ p x, nmb M1 p x ↔ nmb M p x := fun p x => by unfold nmb; rw [g 73 (by decide)]
    unfold rwC gN isP at y2
    simp only [nb, tyN_k kk] at y2
    rw [g 77 (by decide), g 75 (by decide), g 69 (by decide), g 76 (by decide), g 73 (by decide), g 74 (by decide), g 59 (by decide)] at y2
    rw [g 59 (by decide)] at y1
    exact z ⟨y1, y2⟩
  refine c_Mf_row (c_Mf_row_0 s1 (s_isMatchC s1 hm (by rw [e14]; exact ⟨by omega, by omega⟩) ?_))
  rw [e14]
  refine ⟨bI_rg, fun z => ?_, fun z => hno M (fun _ _ => rfl) (fun u => bI_0.mp (Classical.not_not.mp z) u.1)⟩
  have u1 : 0 ≤ m ∧ m < M 59 25 := Classical.not_not.mp (fun u => z (bI_0.mpr u))
  obtain ⟨mq, q1, q2, q3, q4, q5, q6, q7⟩ := s5 m u1.1 u1.2
  have hO := (hall m u1.1 u1.2).1
  have h75 := hO.1.2.1
  have h77 := hO.1.2.2.1
  refine s_giveC (d := d + 7) s1 (fun M1 g1' g58 => ⟨by omega, mq, ⟨by rw [g1' 28 (by decide)]; exact q1, q2⟩, ?_⟩)
  have k0 : M1 mq = M mq := g1' mq (by omega)
  have k1 : M1 (mq + 1) = M (mq + 1) := g1' (mq + 1) (by omega)
  have k18 : M1 18 = M 18 := g1' 18 (by decide)
  have k20 : M1 (18 + 2) = M 20 := g1' (18 + 2) (by decide)
  have k25 : M1 (18 + 7) = M 25 := g1' (18 + 7) (by decide)
  rw [k0, q4.1]
  have hcond : (∀ q, 0 ≤ q → q < M 75 m → (0 ≤ M1 58 q ∧ M1 58 q < M1 18 1) ∧ M1 (18 + 2) (M1 58 q) = M1 (mq + 1) q) ↔ (∀ k, 0 ≤ k → k < M 75 m → isP M (pk3 k a b c) ∧ M 69 (pk3 k a b c) = M 76 (3 * m + k)) := by
    rw [k18, e181, k20, k1]
    constructor
    · intro hh q q0' q1'
      obtain ⟨v1, v2⟩ := hh q q0' q1'
      rw [g58 q q0' (by omega)] at v1 v2
      have v1 : isP M (pk3 q a b c) := v1
      rw [(tP _ v1).1, q4.2.2.1 q q0' q1'] at v2
      exact ⟨v1, v2⟩
    · intro hh q q0' q1'
      obtain ⟨v1, v2⟩ := hh q q0' q1'
      rw [g58 q q0' (by omega), (tP _ v1).1, q4.2.2.1 q q0' q1']
      exact ⟨v1, v2⟩
  refine s_areOfC (d := d + 5) s1 (c5_18 s1) (a3_1 q2) (caa_58 s1) (by omega) rfl rfl (fun q y0 y1 => ?_) (by rw [k18, e181]; exact hP) (fun i i0 i1 => ?_) (fun hyes => ⟨⟨by omega, by omega⟩, fun _ => ?_, fun z => absurd (by decide) z⟩) (fun hn => ⟨⟨by omega, by omega⟩, fun z => absurd rfl z, fun _ => hno M1 g1' (fun u => hn (hcond.mpr u.2.2.1))⟩)
  · rw [g58 q y0 (by omega), k1, q4.2.2.1 q y0 y1]
    have := hO.1.2.2.2.1 q y0 y1
    exact ⟨hpr q, ⟨by omega, by omega⟩⟩
  · rw [k18, e181] at i1
    rw [k20, (tP i ⟨i0, i1⟩).1]
    have := (gp.2 i ⟨i0, i1⟩).1; exact ⟨by omega, by omega⟩
  have hcP := hcond.mp hyes
  have hap : apS (M1 (18 + 7)) (M1 58) (M 75 m) ↔ apS (M 73) (fun q => pk3 q a b c) (M 75 m) := apS_c (fun j j0 j1 => by
    rw [k25, g58 j j0 (by omega)]
    exact (tP _ (hcP j j0 j1).1).2.2.1)
  rw [k0, q4.1]
  refine s_apartC (d := d + 7) s1 (c5_18 s1) (by omega) (fun j j0 j1 => ?_) (fun ha => ⟨⟨by omega, by omega⟩, fun _ => ?_, fun z => absurd (by decide) z⟩) (fun ha => ⟨⟨by omega, by omega⟩, fun z => absurd rfl z, fun _ => hno M1 g1' (fun u => ha (hap.mpr u.2.2.2.1))⟩)
  · rw [g58 j j0 (by omega)]
    have := (hcP j j0 j1).1
    exact ⟨this.1, by have := this.2; omega⟩
  have hA := hap.mp ha
  -- the row comes
  have go : (g1 = -1 ∨ ((∀ k, 0 ≤ k → k < M 75 m → M 74 (pk3 k a b c) = 0) ∧ gN M (fun q => pk3 q a b c) (M 75 m) g1 ∧ gN M (fun q => pk3 q a b c) (M 75 m) g2)) → C_Mf_row_97 e (d + 8) g1 g2 mq M1 (fun y M1 => R_row e (d + 9) m a b c g1 g2 M1 (fun y2 M2 => y = y2 ∧ rg y ∧ Rel e M2 ∧ M2 0 = M 0)) := by
    intro hg
    refine c_Mf_row_97 s1 q2 (s_addRowC (d := d + 7) (A := fun q => pk3 q a b c) s1 q2 q3 (by rw [k0]; exact q4.1) h75 (by rw [k0, q4.2.1]; exact h77) (fun k y0 y1 => g58 k y0 (by omega)) (fun z => hno M1 g1' (fun u => ?_)) (fun z M2 hC => ?_))
    · rw [k0, q4.2.1] at z
      have := u.2.1; omega
    · rw [k0, q4.2.1] at z ⊢
      have hc : rwC M m (fun q => pk3 q a b c) g1 g2 := ⟨z, hcP, hA, hg⟩
      have g2' : ∀ j, j ≠ 58 → j ≤ 99 → M2 j = M j := fun j y1 y2 => by rw [hC.1 j (by omega) (by omega) (by omega) (by omega), g1' j y1]
      have kk : rKp M M2 := ⟨fun cc c0 c1 => g2' cc (by omega) (by omega), by rw [g2' 59 (by decide) (by decide)], by rw [g2' 59 (by decide) (by decide)], by rw [g2' 59 (by decide) (by decide)], by rw [g2' 59 (by decide) (by decide)]⟩
      have r3 := rOK_s hr kk (g2' 96 (by decide) (by decide)) (g2' 97 (by decide) (by decide)) (g2' 98 (by decide) (by decide))
      refine s_row_r s2 r3 (rfX_k kk hxx) hm habc hg1 hg2 (by omega) (fun y => ?_) (fun y1 y2 M3 hRw => ?_)
      · exfalso
        have nb : ∀ p x, nmb M2 p x ↔ nmb M p x := fun p x => by unfold nmb; rw [g2' 73 (by decide) (by decide)]
        unfold rwC gN isP at y
        simp only [nb, tyN_k kk] at y
        rw [g2' 77 (by decide) (by decide), g2' 75 (by decide) (by decide), g2' 69 (by decide) (by decide), g2' 76 (by decide) (by decide), g2' 73 (by decide) (by decide), g2' 74 (by decide) (by decide), g2' 59 (by decide) (by decide)] at y
        exact y ⟨u1, hc⟩
      · rw [g2' 77 (by decide) (by decide)]
        exact ⟨rfl, ⟨by omega, by omega⟩, rel_row (M0 := M1) hr h1 hw htl hxx hro u1 q1 hc hg1 g1' hC hRw⟩
  refine ⟨hg1, fun z => go (Or.inl z), fun z => ?_⟩
  rw [k0, q4.1]
  exact s_guardC (d := d + 6) (A := fun q => pk3 q a b c) s1 h75 gp hxx t7 g1' (fun k y0 y1 => g58 k y0 (by omega)) (fun k y0 y1 => (hcP k y0 y1).1) hg1 hg2 (fun hy => ⟨⟨by omega, by omega⟩, fun _ => go (Or.inr hy), fun u => absurd (by decide) u⟩) (fun hn => ⟨⟨by omega, by omega⟩, fun u => absurd rfl u, fun _ => hno M1 g1' (fun u => by
    rcases u.2.2.2.2 with v | v
    · exact z v
    · exact hn v)⟩)
end ROX
