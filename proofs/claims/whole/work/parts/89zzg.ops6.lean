/-! ===== both sides answer alike: number, make ===== -/
section OPX
variable {e : yE} {d : Nat} {M : xM}
theorem op_number {v : Int} (h : Rel e M) (hd : 1200 ≤ d) (hv : rg v) : C_Mf_number e d v M (fun y M1 => R_number e d v M1 (fun y2 M2 => y = y2 ∧ rg y ∧ Rel e M2 ∧ M2 0 = M 0)) := by
  have h' := h
  obtain ⟨cs, cl, h1, hr, hw, ht, hxx, hro⟩ := h'
  obtain ⟨d, rfl⟩ : ∃ d', d = d' + 9 := ⟨d - 9, by omega⟩
  have h1' := h1
  obtain ⟨s1, s2, s3, s4, s5, s6, s7⟩ := h1'
  have hr' := hr
  obtain ⟨⟨gp, gt, gv, gb, ge⟩, h20, hall, hVV, h9⟩ := hr'
  obtain ⟨r1, r2⟩ := rel_0 (v := 0) h
  have e81 : M 8 1 = M 59 10 := s4.2.2.2.2.1.1
  have t7 := s4.2.2.2.2.2.2.1
  have e80 : M 8 0 = 100 := t7.1.1
  have h10 := gv.1
  have h8 := gt.1
  refine c_Mf_number (c_Mf_number_0 s1 (s_addT (d := d + 6) (a := fun _ => 0) s1 (c5_8 s1) (Or.inl rfl) (by rw [e81]; exact h10) (by omega) (fun j j0 j1 => by omega) (fun j j0 j1 => by omega) (fun i i0 i1 => ?_) (by rw [e80]; exact ⟨by omega, by omega⟩) ⟨by omega, by omega⟩ ⟨by omega, by omega⟩ (fun i i0 i1 => ?_) (fun z => ?_) (fun z1 z2 M1 had => ?_)))
  · rw [e81] at i1
    have := hxx.2.1 i i0 i1
    rw [show M (8 + 4) i = M 67 i from (t7.1.2 i i0 i1).1]; omega
  · rw [e81] at i1
    rw [show M (8 + 9) i = 0 from (t7.1.2 i i0 i1).2.2]; exact ⟨by omega, by omega⟩
  · have z' : M 59 10 = 300 := by
      rcases z with z | z
      · rw [← e81]; exact z
      · rw [e80] at z; exact absurd (show (100 : Int) < 1 from z) (by decide)
    exact s_number s2 h10 (fun _ => ⟨rfl, ⟨by omega, by omega⟩, r1, r2⟩) (fun y => by omega)
  · rw [e81] at z1 ⊢
    have hm1 : ∀ j, ¬ (8 ≤ j ∧ j ≤ 17) → M1 j = M j := had.1
    have e59 : M1 59 = M 59 := hm1 59 (by omega)
    refine s_number s2 (by rw [e59]; exact h10) (fun y => by rw [e59] at y; omega) (fun y => ?_)
    rw [e59]
    rw [if_neg (by decide)] at had
    have := rel_val (M0 := M) (M1 := M1) (M2 := rvPush (xup M1 59 0 0) 0 v 1) (t := 0) (h := v) (s := 1) (n := 0) (kind := 3) (a := fun _ => 0) hr h1 hw ht hxx hro z1 (fun _ _ => rfl) had ?_ (by omega) hv (by omega) (by decide) rfl (by rw [if_pos rfl]) (fun u => absurd rfl u) (fun j j0 j1 => by omega)
    · exact ⟨rfl, ⟨by omega, by omega⟩, this⟩
    · have q : (xup M1 59 0 0) 59 10 = M1 59 10 := xri (by decide)
      unfold rvPush
      rw [q]
      refine ⟨fun c y1 y2 y3 y4 y5 => by rw [xrd y1, xrd y5, xrd y3, xrd y2, xrd y1], ⟨by rw [xrs], fun i y1 y2 => by rw [xri y2, xrd (by decide), xrd (by decide), xrd (by decide), xri y1]⟩, ⟨by rw [xrd (by decide), xrd (by decide), xrd (by decide), xrs], by rw [xrd (by decide), xrd (by decide), xrs], by rw [xrd (by decide), xrs]⟩, fun i hi => ⟨by rw [xrd (by decide), xrd (by decide), xrd (by decide), xri hi, xrd (by decide)], by rw [xrd (by decide), xrd (by decide), xri hi, xrd (by decide), xrd (by decide)], by rw [xrd (by decide), xri hi, xrd (by decide), xrd (by decide), xrd (by decide)]⟩, fun j j0 j1 => by omega, fun i _ => by rw [xrd (by decide), xrd (by decide), xrd (by decide), xrd (by decide), xrd (by decide)]⟩
/-- a change of what was given, and of the reference's first word -/
theorem rel_58 {M1 : xM} (h : Rel e M) (h1 : ∀ j, j ≠ 58 → M1 j = M j) : Rel e (xup M1 59 0 0) ∧ (xup M1 59 0 0) 0 = M 0 := by
  obtain ⟨cs, cl, c1, hr, hw, ht, hxx, hro⟩ := h
  have c2 : cRel e M1 M cs cl := cRel_k hr (fun cc hc => h1 cc (by omega)) rKp_rf c1
  have k1 : rKp M M1 := ⟨fun cc c0 c1 => h1 cc (by omega), by rw [h1 59 (by decide)], by rw [h1 59 (by decide)], by rw [h1 59 (by decide)], by rw [h1 59 (by decide)]⟩
  have r1 : rOK M1 := rOK_s hr k1 (h1 96 (by decide)) (h1 97 (by decide)) (h1 98 (by decide))
  have f3 : frR M1 (xup M1 59 0 0) := frR_0 rfl
  refine ⟨rel_end hr c2 (fun j j0 j1 => h1 j (by omega)) (fun cc i hc => f3 cc i (by omega)) (rKp_R f3) (rOK_0 r1 (by omega)) (wkR_k hw ?_ ?_ ?_) (tlR_k ht ?_ ?_ ?_ ?_ ?_) hxx hro, ?_⟩
  · rw [xrd (by decide), h1 45 (by decide)]
  · rw [xrd (by decide), h1 46 (by decide)]
  · rw [xrd (by decide), h1 81 (by decide)]
  · rw [xrd (by decide), h1 53 (by decide)]
  · rw [xrd (by decide), h1 54 (by decide)]
  · rw [xrd (by decide), h1 55 (by decide)]
  · rw [xri (by decide), h1 59 (by decide)]
  · rw [xrd (by decide), h1 99 (by decide)]
  · rw [xrd (by decide), h1 0 (by decide)]
theorem op_make {t h a b c : Int} (hR : Rel e M) (hd : 1200 ≤ d) (ht : rg t) (hh : rg h) (habc : rg a ∧ rg b ∧ rg c) : C_Mf_make e d t h a b c M (fun y M1 => R_make e d t h a b c M1 (fun y2 M2 => y = y2 ∧ rg y ∧ Rel e M2 ∧ M2 0 = M 0)) := by
  have hR' := hR
  obtain ⟨cs, cl, h1, hr, hw, htl, hxx, hro⟩ := hR'
  obtain ⟨d, rfl⟩ : ∃ d', d = d' + 9 := ⟨d - 9, by omega⟩
  have h1' := h1
  obtain ⟨s1, s2, s3, s4, s5, s6, s7⟩ := h1'
  have hr' := hr
  obtain ⟨⟨gp, gt, gv, gb, ge⟩, h20, hall, hVV, h9⟩ := hr'
  have e81 : M 8 1 = M 59 10 := s4.2.2.2.2.1.1
  have t7 := s4.2.2.2.2.2.2.1
  have t5 := s4.2.2.2.2.1
  have e80 : M 8 0 = 100 := t7.1.1
  have h10 := gv.1
  have h8 := gt.1
  have hpr : ∀ q, rg (pk3 q a b c) := fun q => by unfold pk3; split; exact habc.1; split; exact habc.2.1; exact habc.2.2
  refine c_Mf_make (c_Mf_make_0 s1 (s_giveC (d := d + 7) s1 (fun M1 g1 g58 => ?_)))
  have q8 : M1 8 = M 8 := g1 8 (by decide)
  have q10 : M1 (8 + 2) = M 10 := g1 (8 + 2) (by decide)
  have q15 : M1 (8 + 7) = M 15 := g1 (8 + 7) (by decide)
  have q12 : M1 (8 + 4) = M 12 := g1 (8 + 4) (by decide)
  have q17 : M1 (8 + 9) = M 17 := g1 (8 + 9) (by decide)
  have hY1 : tCl M1 M := tCl_cg (g1 2 (by decide)) (g1 3 (by decide)) (g1 4 (by decide)) (g1 5 (by decide)) s4.2.2.1
  -- the reference at what the class leaves unchanged
  have k1 : ∀ M1' : xM, (∀ j, j ≠ 58 → M1' j = M j) → (M1' 59 = M 59 ∧ wfT M1' ∧ wfVl M1' ∧ (∀ v, 0 ≤ v → v < M1' 59 10 → 1 ≤ M1' 67 v ∧ M1' 67 v ≤ 100)) := by
    intro M1' g
    have kk : rKp M M1' := ⟨fun cc c0 c1 => g cc (by omega), by rw [g 59 (by decide)], by rw [g 59 (by decide)], by rw [g 59 (by decide)], by rw [g 59 (by decide)]⟩
    have r1 := rOK_s hr kk (g 96 (by decide)) (g 97 (by decide)) (g 98 (by decide))
    exact ⟨g 59 (by decide), r1.1.2.1, r1.1.2.2.1, (rfX_k kk hxx).2.1⟩
  obtain ⟨e59, w1, w2, w3⟩ := k1 M1 g1
  obtain ⟨n1, n2⟩ := rel_58 hR g1
  have q61 : M1 61 = M 61 := g1 61 (by decide)
  have q62 : M1 62 = M 62 := g1 62 (by decide)
  have q60 : M1 60 = M 60 := g1 60 (by decide)
  have q64 : M1 64 = M 64 := g1 64 (by decide)
  have q67 : M1 67 = M 67 := g1 67 (by decide)
  have hpart : (0 ≤ t ∧ t < M 59 1 ∧ 0 ≤ h ∧ h < M 60 t) → M 61 (6 * t + h) ≤ 3 := fun hm => (gt.2.2.2 t h hm.1 hm.2.1 hm.2.2.1 hm.2.2.2).1.2
  -- nothing comes of it
  have hno : ¬ ((0 ≤ t ∧ t < M 59 1 ∧ 0 ≤ h ∧ h < M 60 t) ∧ M 59 10 < 300 ∧ (∀ j, 0 ≤ j → j < M 61 (6 * t + h) → (0 ≤ pk3 j a b c ∧ pk3 j a b c < M 59 10) ∧ M 64 (pk3 j a b c) = M 62 (3 * (6 * t + h) + j)) ∧ smW (M 67) (fun q => pk3 q a b c) (M 61 (6 * t + h)).toNat ≤ 100) → R_make e (d + 9) t h a b c M1 (fun y2 M2 => -1 = y2 ∧ rg (-1) ∧ Rel e M2 ∧ M2 0 = M 0) := by
    intro hz
    refine s_make_r (d := d + 6) s2 w1 w2 w3 ht hh habc (fun _ => ⟨rfl, ⟨by omega, by omega⟩, n1, n2⟩) (fun y1 y2 y3 y4 => ?_)
    exfalso
    rw [e59, q60] at y1
    rw [e59] at y2
    rw [q61, e59, q64, q62] at y3
    rw [q67, q61] at y4
    exact hz ⟨y1, y2, y3, y4⟩
  refine s_addMadeC (D := M) (d := d + 4) s1 (c5_8 s1) gt hY1 ht hh (by rw [q8, e81]; exact h10) (fun j j0 j1 => by rw [g58 j j0 j1]; exact hpr j) (fun i i0 i1 => ?_) (fun z => hno (fun w => z ⟨w.1, fun j j0 j1 => ?_, fun j hj => ?_⟩)) (fun z1 z2 z3 => ?_)
  · rw [q8, e81] at i1
    rw [q10, t5.2 i i0 i1]
    have := (gv.2 i i0 i1).2.1; exact ⟨by omega, by omega⟩
  · have := hpart w.1
    obtain ⟨u1, u2⟩ := w.2.2.1 j j0 j1
    rw [g58 j j0 (by omega), q8, e81, q10, t5.2 _ u1.1 u1.2]
    exact ⟨u1, u2⟩
  · have := hpart w.1
    have zz : ∀ i : Int, 0 ≤ i → i < M 61 (6 * t + h) → M1 (8 + 7) (M1 58 i) = 0 := fun i i0 i1 => by
      obtain ⟨u1, u2⟩ := w.2.2.1 i i0 i1
      rw [g58 i i0 (by omega), q15]; exact (t7.1.2 _ u1.1 u1.2).2.1
    rw [orS_0 j (fun i i0 i1 => zz i i0 (by omega)), zz j (by omega) hj]; decide
  · have hp3 := hpart z1
    have zp : ∀ j, 0 ≤ j → j < M 61 (6 * t + h) → (0 ≤ pk3 j a b c ∧ pk3 j a b c < M 59 10) ∧ M 64 (pk3 j a b c) = M 62 (3 * (6 * t + h) + j) := fun j j0 j1 => by
      obtain ⟨u1, u2⟩ := z2 j j0 j1
      rw [g58 j j0 (by omega)] at u1 u2
      rw [q8, e81] at u1
      rw [q10, t5.2 _ u1.1 u1.2] at u2
      exact ⟨u1, u2⟩
    have n3 := (gt.2.2.2 t h z1.1 z1.2.1 z1.2.2.1 z1.2.2.2).1
    have hsw : smW (M1 (8 + 4)) (fun q => pk3 q a b c) (M 61 (6 * t + h)).toNat = smW (M 67) (fun q => pk3 q a b c) (M 61 (6 * t + h)).toNat := by
      rw [q12]
      exact smW_c _ (fun j j0 j1 => (t7.1.2 _ (zp j j0 (by omega)).1.1 (zp j j0 (by omega)).1.2).1)
    refine s_addT (d := d + 5) (a := fun q => pk3 q a b c) s1 (c5_8 s1) (Or.inl rfl) (by rw [q8, e81]; exact h10) n3 (fun j j0 j1 => g58 j j0 (by omega)) (fun j j0 j1 => by rw [q8, e81]; exact (zp j j0 j1).1) (fun i i0 i1 => ?_) (by rw [q8, e80]; exact ⟨by omega, by omega⟩) ⟨by omega, by omega⟩ ht (fun i i0 i1 => ?_) (fun z => hno (fun w => ?_)) (fun y1 y2 M2 had => ?_)
    · rw [q8, e81] at i1
      have := hxx.2.1 i i0 i1
      rw [q12, (t7.1.2 i i0 i1).1]; omega
    · rw [q8, e81] at i1
      rw [q17, (t7.1.2 i i0 i1).2.2]; exact ⟨by omega, by omega⟩
    · rw [q8, e81, e80, hsw] at z
      rcases z with z | z
      · omega
      · have := w.2.2.2; omega
    · rw [q8, e81] at y1
      rw [q8, e80, hsw] at y2
      rw [q8, e81]
      rw [if_neg (by decide)] at had
      have hm2 : ∀ j, ¬ (8 ≤ j ∧ j ≤ 17) → j ≠ 58 → M2 j = M j := fun j u1 u2 => by rw [had.1 j u1, g1 j u2]
      have f59 : M2 59 = M 59 := hm2 59 (by omega) (by decide)
      have f60 : M2 60 = M 60 := hm2 60 (by omega) (by decide)
      have f61 : M2 61 = M 61 := hm2 61 (by omega) (by decide)
      have f62 : M2 62 = M 62 := hm2 62 (by omega) (by decide)
      have f64 : M2 64 = M 64 := hm2 64 (by omega) (by decide)
      have f65 : M2 65 = M 65 := hm2 65 (by omega) (by decide)
      have f66 : M2 66 = M 66 := hm2 66 (by omega) (by decide)
      have f67 : M2 67 = M 67 := hm2 67 (by omega) (by decide)
      have v1 : wfT M2 := by unfold wfT at *; rw [f59, f60, f61, f62]; exact gt
      have v2 : wfVl M2 := by unfold wfVl at *; rw [f59, f60, f61, f62, f64, f65, f66]; exact gv
      refine s_make_r (d := d + 6) s2 v1 v2 (by rw [f59, f67]; exact hxx.2.1) ht hh habc (fun z => ?_) (fun x1 x2 x3 x4 M3 hg => ?_)
      · exfalso
        rw [f59, f60, f61, f62, f64, f67] at z
        exact z ⟨z1, y1, zp, y2⟩
      · rw [f61, f67] at hg
        rw [f59]
        have tz : t ≠ 0 := fun u => by have := gt.2.2.1; rw [u] at z1; omega
        have hsb : 1 ≤ smW (M 67) (fun q => pk3 q a b c) (M 61 (6 * t + h)).toNat := by
          have key : ∀ n : Nat, (n : Int) ≤ M 61 (6 * t + h) → 1 ≤ smW (M 67) (fun q => pk3 q a b c) n := by
            intro n
            induction n with
            | zero => intro _; exact Int.le_refl _
            | succ n ih =>
              intro hn
              have := ih (by omega)
              have := hxx.2.1 _ (zp n (by omega) (by omega)).1.1 (zp n (by omega) (by omega)).1.2
              show 1 ≤ smW (M 67) (fun q => pk3 q a b c) n + M 67 (pk3 n a b c)
              omega
          exact key _ (by omega)
        have := rel_val (M0 := M1) (M1 := M2) (M2 := M3) (t := t) (h := h) (n := M 61 (6 * t + h)) (kind := 4) (a := fun q => pk3 q a b c) hr h1 hw htl hxx hro y1 g1 had hg ⟨z1.1, z1.2.1⟩ hh ⟨hsb, y2⟩ (by decide) (by rw [← hsw, q12]) (by rw [if_neg tz]) (fun _ => z1.2.2) zp
        exact ⟨rfl, ⟨by omega, by omega⟩, this⟩
end OPX
