/-! ===== both sides answer alike: match ===== -/
section OPM
variable {e e' : yE} {d : Nat} {M M0 M1 M2 : xM} {cs cl : Nat}
theorem cel_k {k c q1 q2 q3 : Nat} (h : cel e M k c q1 q2 q3) (hl : yLe e e') (hM : M1 k = M k) : cel e' M1 k c q1 q2 q3 := by
  obtain ⟨a1, a2, ⟨a3, a4, a5⟩, a6, a7, a8⟩ := h
  unfold cel
  rw [hM]
  exact ⟨a1.le hl, a2, ⟨a3.le hl, a4.le hl, a5.le hl⟩, a6, a7, a8⟩
theorem hpC_k (h : hpC e M cs cl) (hl : yLe e e') (h30 : M1 30 = M 30) (h34 : M1 34 = M 34) : hpC e' M1 cs cl := by
  obtain ⟨s1, s2, s3, l1, l2, l3, c1, c2, c3, c4, c5, c6, c7⟩ := h
  exact ⟨s1, s2, s3, l1, l2, l3, cel_k c1 hl h30, cel_k c2 hl h34, c3, c4, c5, c6, Nat.lt_of_lt_of_le c7 hl.1⟩
/-- refused: only the reference's list of types has changed -/
theorem rel_mno (hR : Rel e M) (h0 : ∀ j, j ≠ 58 → M0 j = M j) (hn : rMn M0 M2) : Rel e M2 ∧ M2 0 = M 0 := by
  obtain ⟨cs, cl, h1, hr, hw, htl, hx, hro⟩ := hR
  obtain ⟨r1, r2, r3⟩ := hn
  rw [h0 59 (by decide)] at r2 r3
  rw [h0 76 (by decide)] at r3
  have g : ∀ j, j ≠ 58 → j ≠ 59 → j ≠ 76 → M2 j = M j := fun j y0 y1 y2 => by rw [r1 j y1 y2, h0 j y0]
  have kT : kpT M M2 := ⟨fun c y0 y1 => g c (by omega) (by omega) (by omega), r2 1 (by decide), r2 10 (by decide), r2 18 (by decide)⟩
  have e25 := r2 25 (by decide)
  have hcn : ∀ x, 0 ≤ x → x < M 59 25 → cng M M2 x := fun x x0 x1 => by
    refine ⟨by rw [kT.2.2.2]; exact Int.le_refl _, fun p _ => ?_, ?_, fun r y0 y1 => ?_, ?_⟩
    · rw [kT.1 68 (by omega) (by omega), kT.1 69 (by omega) (by omega), kT.1 70 (by omega) (by omega), kT.1 72 (by omega) (by omega), kT.1 73 (by omega) (by omega), kT.1 71 (by omega) (by omega)]; exact ⟨rfl, rfl, rfl, rfl, rfl, fun _ _ _ => rfl⟩
    · rw [kT.1 60 (by omega) (by omega), kT.1 61 (by omega) (by omega), kT.1 62 (by omega) (by omega), kT.1 63 (by omega) (by omega), kT.2.1]; exact ⟨rfl, rfl, rfl, rfl, Int.le_refl _⟩
    · rw [g 79 (by omega) (by omega) (by omega), g 80 (by omega) (by omega) (by omega)]; exact ⟨rfl, rfl⟩
    · rw [g 75 (by omega) (by omega) (by omega), g 77 (by omega) (by omega) (by omega), g 78 (by omega) (by omega) (by omega)]
      exact ⟨rfl, rfl, fun k k0 k1 => r3 _ (by omega), fun _ _ _ => rfl⟩
  have hc0 : cng M M2 (-1) := by
    refine ⟨by rw [kT.2.2.2]; exact Int.le_refl _, fun p _ => ?_, ?_, fun r y0 y1 => ?_, ?_⟩
    · rw [kT.1 68 (by omega) (by omega), kT.1 69 (by omega) (by omega), kT.1 70 (by omega) (by omega), kT.1 72 (by omega) (by omega), kT.1 73 (by omega) (by omega), kT.1 71 (by omega) (by omega)]; exact ⟨rfl, rfl, rfl, rfl, rfl, fun _ _ _ => rfl⟩
    · rw [kT.1 60 (by omega) (by omega), kT.1 61 (by omega) (by omega), kT.1 62 (by omega) (by omega), kT.1 63 (by omega) (by omega), kT.2.1]; exact ⟨rfl, rfl, rfl, rfl, Int.le_refl _⟩
    · rw [g 79 (by omega) (by omega) (by omega), g 80 (by omega) (by omega) (by omega)]; exact ⟨rfl, rfl⟩
    · rw [g 75 (by omega) (by omega) (by omega), g 77 (by omega) (by omega) (by omega), g 78 (by omega) (by omega) (by omega)]
      have h20 := hr.2.1
      exact ⟨rfl, rfl, fun k k0 k1 => r3 _ (by omega), fun _ _ _ => rfl⟩
  have s4 := h1.2.2.2.1
  refine ⟨rel_mk (M1 := M0) hr h1 (fun c hc => g c (by omega) (by omega) (by omega)) e25 hcn (stc_m (fun c hc _ => g c (by omega) (by omega) (by omega)) kT hc0 (by rw [g 1 (by omega) (by omega) (by omega), e25]; exact s4.2.2.2.2.2.1) s4) (wOK_m kT hr.1) (fun p _ => by rw [g 74 (by omega) (by omega) (by omega)]) (g 96 (by omega) (by omega) (by omega)) (g 97 (by omega) (by omega) (by omega)) (g 98 (by omega) (by omega) (by omega)) (fun w => wfV_m kT (hr.2.2.2.1 w)) (g 79 (by omega) (by omega) (by omega)) (g 80 (by omega) (by omega) (by omega)) hw htl (g 45 (by omega) (by omega) (by omega)) (g 46 (by omega) (by omega) (by omega)) (g 81 (by omega) (by omega) (by omega)) (g 53 (by omega) (by omega) (by omega)) (g 54 (by omega) (by omega) (by omega)) (g 55 (by omega) (by omega) (by omega)) (r2 55 (by decide)) (g 99 (by omega) (by omega) (by omega)) (rfX_m kT hx) hro, g 0 (by omega) (by omega) (by omega)⟩
theorem rel_match {n : Int} {A : Int → Int} (hR : Rel e M) (hn : 1 ≤ n ∧ n ≤ 3) (h20' : M 59 25 < 20) (hty : ∀ k, 0 ≤ k → k < n → 0 ≤ A k ∧ A k < M 59 1) (h63 : ∀ t, 0 ≤ t → t < M 59 1 → M 63 t ≠ 0) (hC : nMt e e' M M1 n A) (hD : rMt M1 M2 n A) : Rel e' M2 ∧ M2 0 = M 0 := by
  obtain ⟨cs, cl, ⟨s1, s2, s3, s4, s5, s6, s7⟩, hr, hw, htl, hx, hro⟩ := hR
  obtain ⟨c1, c2, c3, c4, c5, c6, c7, c8, c9, c10⟩ := hC
  obtain ⟨r1, r2, r3, r4, r5, r6⟩ := hD
  have he99 : 99 < e.1 := s2.1
  have hr' := hr
  obtain ⟨hW, h20, hall, hVV, h9⟩ := hr'
  have e14 : M 1 4 = M 59 25 := s4.2.2.2.2.2.1
  have lo : ∀ j, 59 ≤ j → j ≤ 99 → M1 j = M j := fun j y0 y1 => c5 j (by omega) (by omega) (by omega) (by omega)
  rw [lo 59 (by omega) (by omega)] at r2 r3 r4 r5 r6
  rw [lo 75 (by omega) (by omega)] at r3
  rw [lo 77 (by omega) (by omega)] at r4
  rw [lo 76 (by omega) (by omega)] at r6
  rw [e14] at c6 c7
  obtain ⟨N, eN⟩ : ∃ N, N = M 59 25 := ⟨_, rfl⟩
  rw [← eN] at c6 c7 r2 r3 r4 r5 r6 h20' h20
  have D : ∀ j, 59 < j → j ≤ 99 → j ≠ 75 → j ≠ 76 → j ≠ 77 → M2 j = M j := fun j y1 y2 y3 y4 y5 => by rw [r1 j (by omega) y3 y4 y5, lo j (by omega) y2]
  have hi2 : ∀ j, (j < 59 ∨ 99 < j) → M2 j = M1 j := fun j hj => r1 j (by omega) (by omega) (by omega) (by omega)
  have K : ∀ j, j < 58 → j ≠ 28 → j ≠ 1 → M2 j = M j := fun j y0 y1 y2 => by rw [hi2 j (by omega), c5 j (by omega) (by omega) y1 y2]
  have kT : kpT M M2 := ⟨fun c y0 y1 => D c y0 (by omega) (by omega) (by omega) (by omega), r2.2 1 (by decide) (by decide), r2.2 10 (by decide) (by decide), r2.2 18 (by decide) (by decide)⟩
  have hcn : ∀ x, x < N → cng M M2 x := fun x x1 => by
    refine ⟨by rw [kT.2.2.2]; exact Int.le_refl _, fun p _ => ?_, ?_, fun r y0 y1 => ?_, ?_⟩
    · rw [kT.1 68 (by omega) (by omega), kT.1 69 (by omega) (by omega), kT.1 70 (by omega) (by omega), kT.1 72 (by omega) (by omega), kT.1 73 (by omega) (by omega), kT.1 71 (by omega) (by omega)]; exact ⟨rfl, rfl, rfl, rfl, rfl, fun _ _ _ => rfl⟩
    · rw [kT.1 60 (by omega) (by omega), kT.1 61 (by omega) (by omega), kT.1 62 (by omega) (by omega), kT.1 63 (by omega) (by omega), kT.2.1]; exact ⟨rfl, rfl, rfl, rfl, Int.le_refl _⟩
    · rw [D 79 (by omega) (by omega) (by omega) (by omega) (by omega), D 80 (by omega) (by omega) (by omega) (by omega) (by omega)]; exact ⟨rfl, rfl⟩
    · rw [D 78 (by omega) (by omega) (by omega) (by omega) (by omega)]
      exact ⟨r3.2 x (by omega), r4.2 x (by omega), fun k k0 k1 => r6 _ (by omega), fun _ _ _ => rfl⟩
  have v14 : M2 1 4 = N + 1 := by rw [hi2 1 (by omega)]; exact c7.1
  have hst2 : stc M2 M2 := by
    refine stc_m (x := -1) (C := M) (fun c hc hc1 => K c (by omega) (by omega) hc1) kT (hcn (-1) (by omega)) (by rw [v14, r2.1]) s4
  have v28 : ∀ x, x < N → M2 28 x = M 28 x := fun x hx' => by rw [hi2 28 (by omega)]; exact c6.2 x (by omega)
  have v28N : M2 28 N = (e.1 : Int) := by rw [hi2 28 (by omega)]; exact c6.1
  have n0 := h9.2 N (by omega) h20'
  have old : ∀ x, 0 ≤ x → x < N → mtC e' M2 M2 x := fun x x0 x1 => by
    obtain ⟨nq, n1, n2, n3, n4⟩ := s5 x x0 (by omega)
    have hb := n2.2.1
    -- the cells of the old match are untouched; its place in the list is read through v28
    have hmt := mtC_c (e := e) (C' := fun c => if c = 28 then M 28 else M2 c) hW.1 hW.2.1 (hall x x0 (by omega)).1.1 (if_pos rfl) (fun nq' hn' j y1 y2 => by
      have : (nq' : Int) = nq := by rw [← hn', n1]
      rw [if_neg (by omega), hi2 j (by omega)]
      exact c5 j (by omega) (by omega) (by omega) (by omega)) (hcn x x1) ⟨nq, n1, n2, n3, n4⟩
    obtain ⟨nq', p1, p2, p3, p4⟩ := hmt
    have p1' : M 28 x = (nq' : Int) := by rw [← p1]; exact (congrFun (if_pos rfl) x).symm
    have ex : ∀ j, nq' ≤ j → (fun c => if c = 28 then M 28 else M2 c) j = M2 j := fun j hj => if_neg (by omega)
    refine ⟨nq', by rw [v28 x x1]; exact p1', p2.le c4, p3, ?_⟩
    unfold mCl gCl at p4 ⊢
    rw [ex nq' (by omega), ex (nq' + 1) (by omega), ex (nq' + 2) (by omega), ex (nq' + 3) (by omega), ex (nq' + 4) (by omega)] at p4
    exact ⟨p4.1, p4.2.1, p4.2.2.1, fun z => trO_cg (fun j y1 y2 => (ex j (by omega)).symm) (p4.2.2.2 z)⟩
  have hcr : cRel e' M2 M2 cs cl := by
    refine ⟨CSh.le s1 c4, RSh_le s2 c4, ⟨hpC_k s3.1 c4 (K 30 (by omega) (by omega) (by omega)) (K 34 (by omega) (by omega) (by omega)), s3.2⟩, hst2, fun x x0 x1 => ?_, fun x y x0 x1 y0 y1 hxy => ?_, by rw [c4.2 0 (by omega)]; exact s7⟩
    · rw [r2.1] at x1
      by_cases z : x = N
      · rw [z]
        refine ⟨e.1, v28N, c1, he99, ⟨by rw [hi2 e.1 (by omega), r3.1]; exact c8.1, by rw [hi2 e.1 (by omega), r4.1]; exact c8.2.1, fun k k0 k1 => ?_, fun r k r0 r1' => ?_⟩, fun r r0 r1' => ?_, Or.inr (by rw [hi2 e.1 (by omega)]; exact c8.2.2), fun u => ?_⟩
        · rw [r3.1] at k1
          rw [hi2 (e.1 + 1) (by omega), c9 k k0 k1, r5 k k0 k1]
        · rw [r4.1] at r1'; omega
        · rw [hi2 (e.1 + 3) (by omega), hi2 (e.1 + 4) (by omega), D 79 (by omega) (by omega) (by omega) (by omega) (by omega), D 80 (by omega) (by omega) (by omega) (by omega) (by omega), (c10 r).1, (c10 r).2, (n0.2 r r0 r1').1, (n0.2 r r0 r1').2]; exact ⟨rfl, rfl⟩
        · rw [hi2 e.1 (by omega), c8.2.2] at u; omega
      · exact old x x0 (by omega)
    · rw [r2.1] at x1 y1
      have key : ∀ x, 0 ≤ x → x < N → M2 28 x + 17 < (e.1 : Int) := fun x x0 x1 => by
        obtain ⟨nq, n1, n2, -⟩ := s5 x x0 (by omega)
        rw [v28 x x1, n1]
        have := n2.2.1; omega
      by_cases zx : x = N
      · rw [zx, v28N]; exact Or.inr (key y y0 (by omega))
      · by_cases zy : y = N
        · rw [zy, v28N]; exact Or.inl (key x x0 (by omega))
        · rw [v28 x (by omega), v28 y (by omega)]
          exact s6 x y x0 (by omega) y0 (by omega) hxy
  have p63 : ∀ t, 0 ≤ t → t < M 59 1 → 0 < M 63 t := fun t t0 t1 => by
    have := h63 t t0 t1
    have := (hx.1.2.1 t t0 (by have := hW.2.1.1; omega)).1
    omega
  have hV : wfV M := by
    refine ⟨fun t t0 t1 => ⟨(hx.1.2.1 t t0 (by have := hW.2.1.1; omega)).1, (hx.1.2.1 t t0 (by have := hW.2.1.1; omega)).2.1⟩, fun t t0 t1 hp => (hx.1.2.2.2 t t0 t1).2 hp, fun t k j t0 t1 k0 k1 j0 j1 => ?_⟩
    have := (hW.2.1.2.2.2 t k t0 t1 k0 k1).2 j j0 j1
    exact p63 _ this.1 this.2
  refine ⟨⟨cs, cl, hcr, ⟨wOK_m kT hW, by rw [r2.1]; omega, fun x x0 x1 => ?_, fun _ => wfV_m kT hV, fun i i0 i1 => ?_, fun x x0 x1 => ?_⟩, wkR_k hw (K 45 (by omega) (by omega) (by omega)) (K 46 (by omega) (by omega) (by omega)) (D 81 (by omega) (by omega) (by omega) (by omega) (by omega)), tlR_k htl (K 53 (by omega) (by omega) (by omega)) (K 54 (by omega) (by omega) (by omega)) (K 55 (by omega) (by omega) (by omega)) (r2.2 55 (by decide) (by decide)) (D 99 (by omega) (by omega) (by omega) (by omega) (by omega)), rfX_m kT hx, ?_⟩, K 0 (by omega) (by omega) (by omega)⟩
  · rw [r2.1] at x1
    by_cases z : x = N
    · rw [z]
      refine ⟨⟨⟨by omega, by rw [r3.1]; exact hn, by rw [r4.1]; omega, fun k k0 k1 => ?_, fun r k r0 r1' => ?_⟩, fun r r0 r1' => ?_, fun r j k a r0 r1' => ?_, fun r r0 r1' => ?_, fun r r0 r1' => ?_⟩, Or.inl ?_, fun u => ?_⟩
      · rw [r3.1] at k1
        rw [r5 k k0 k1, kT.2.1, kT.1 63 (by omega) (by omega)]
        have := hty k k0 k1
        exact ⟨this.1, this.2, p63 _ this.1 this.2⟩
      · rw [r4.1] at r1'; omega
      · rw [r4.1] at r1'; omega
      · rw [r4.1] at r1'; omega
      · rw [r4.1] at r1'; omega
      · rw [D 79 (by omega) (by omega) (by omega) (by omega) (by omega), (n0.2 r r0 r1').1]; omega
      · rw [D 96 (by omega) (by omega) (by omega) (by omega) (by omega)]; exact n0.1
      · rw [D 96 (by omega) (by omega) (by omega) (by omega) (by omega), n0.1] at u; omega
    · exact ⟨mOK_c (hcn x (by omega)) (fun p _ => by rw [kT.1 74 (by omega) (by omega)]) (hall x x0 (by omega)).1, lkO_c hW.1 hW.2.1 (hall x x0 (by omega)).1.1 (hcn x (by omega)) (by rw [D 96 (by omega) (by omega) (by omega) (by omega) (by omega)]) (by rw [D 97 (by omega) (by omega) (by omega) (by omega) (by omega)]) (fun k _ _ => by rw [D 98 (by omega) (by omega) (by omega) (by omega) (by omega)]) (hall x x0 (by omega)).2⟩
  · rw [D 79 (by omega) (by omega) (by omega) (by omega) (by omega)]; exact h9.1 i i0 i1
  · rw [r2.1] at x0
    rw [D 96 (by omega) (by omega) (by omega) (by omega) (by omega), D 79 (by omega) (by omega) (by omega) (by omega) (by omega), D 80 (by omega) (by omega) (by omega) (by omega) (by omega)]
    exact h9.2 x (by omega) x1
  · unfold rom at *
    rw [r2.1]
    rw [← eN] at hro
    obtain ⟨o1, o2⟩ := hro
    exact ⟨by omega, by omega⟩
theorem op_match {n a b c : Int} (hR : Rel e M) (hd : 1200 ≤ d) (hn : rg n) (habc : rg a ∧ rg b ∧ rg c) : C_Mf_match e d n a b c M (fun y e1 M1 => yLe e e1 ∧ R_match e1 d n a b c M1 (fun y2 M2 => y = y2 ∧ rg y ∧ Rel e1 M2 ∧ M2 0 = M 0)) := by
  have hR' := hR
  obtain ⟨cs, cl, ⟨s1, s2, s3, s4, s5, s6, s7⟩, hr, hw, htl, hx, hro⟩ := hR'
  obtain ⟨d, rfl⟩ : ∃ d', d = d' + 9 := ⟨d - 9, by omega⟩
  have h20 := hr.2.1
  have h8 := hr.1.2.1.1
  have e14 : M 1 4 = M 59 25 := s4.2.2.2.2.2.1
  have e20 : M 2 0 = M 59 1 := s4.2.2.1.1
  have e6 : ∀ t, 0 ≤ t → t < 8 → M 6 t = M 63 t := s4.2.2.2.2.2.2.2.1
  have h63 : ∀ t, 0 ≤ t → t < 8 → 0 ≤ M 63 t ∧ M 63 t ≤ 100000 := fun t t0 t1 => ⟨(hx.1.2.1 t t0 t1).1, (hx.1.2.1 t t0 t1).2.1⟩
  have eT : (∀ t, 0 ≤ t → t < M 2 0 → M 6 t ≠ 0) ↔ (∀ t, 0 ≤ t → t < M 59 1 → M 63 t ≠ 0) := by
    rw [e20]
    exact ⟨fun u t t0 t1 => by rw [← e6 t t0 (by omega)]; exact u t t0 t1, fun u t t0 t1 => by rw [e6 t t0 (by omega)]; exact u t t0 t1⟩
  refine s_matchC (d := d + 5) s1 hn habc (by omega) (by omega) (fun t t0 t1 => by rw [e6 t t0 t1]; have := h63 t t0 t1; exact ⟨by omega, by omega⟩) (fun z M1 g1 => ⟨yLe.rf, ?_⟩) (fun z1 z2 z3 z4 e' M' hC => ?_)
  · have k59 : M1 59 = M 59 := g1 59 (by decide)
    have k63 : M1 63 = M 63 := g1 63 (by decide)
    refine s_match_r (d := d + 7) s2 hn habc (by rw [k59]; exact h20) (by rw [k59]; exact h8) (by rw [k63]; exact h63) (fun _ M2 hm => ⟨rfl, ⟨by omega, by omega⟩, rel_mno hR g1 hm⟩) (fun y1 y2 y3 y4 => ?_)
    exfalso
    rw [k59] at y2 y3 y4
    rw [k63] at y4
    refine z ⟨y1, by omega, ?_, eT.mpr y4⟩
    rw [e20]; exact y3
  · have he : M' 59 = M 59 := hC.2.2.2.2.1 59 (by have := s2.1; omega) (by decide) (by decide) (by decide)
    have k63 : M' 63 = M 63 := hC.2.2.2.2.1 63 (by have := s2.1; omega) (by decide) (by decide) (by decide)
    refine ⟨hC.2.2.2.1, ?_⟩
    have z4' := eT.mp z4
    rw [e20] at z3
    rw [e14] at z2 ⊢
    refine s_match_r (d := d + 7) (RSh_le s2 hC.2.2.2.1) hn habc (by rw [he]; exact h20) (by rw [he]; exact h8) (by rw [k63]; exact h63) (fun y => ?_) (fun y1 y2 y3 y4 M2 hD => ?_)
    · exfalso
      rw [he, k63] at y
      exact y ⟨z1, z2, z3, z4'⟩
    · rw [he]
      exact ⟨rfl, ⟨by omega, by omega⟩, rel_match hR z1 z2 z3 z4' hC hD⟩
end OPM
