/-! ===== a pattern more: all together ===== -/
section PAV
variable {e : yE} {d : Nat} {M M0 M1 M2 : xM} {kd t h w b ei n kind own : Int} {a : Int → Int}
theorem rel_pat {cs cl : Nat} (hr : rOK M) (h1 : cRel e M M cs cl) (hw : wkR M M) (htl : tlR M M) (hx : rfX M) (hro : rom e M cs cl) (hP300 : M 59 18 < 300) (h0 : ∀ j, j ≠ 58 → M0 j = M j) (had : adT 18 M0 M1 kind t h n own a) (hg : pGr M1 M2 kd t h w b ei n a) (hcl : ∀ c, (c < 59 ∨ 99 < c) → M2 c = M1 c)
    (ht1 : 0 ≤ t ∧ t < M 59 1) (hrh : rg h) (hn : pNw M kd t h n kind own a) (hpt : ∀ j, 0 ≤ j → j < n → isP M (a j)) (hww : w = smW (M 72) a n.toNat) (hw40 : w ≤ 40) (hb : b = orS (M 73) a own n.toNat) (hei : ei = fkS (M 74) a (if kind = 5 then 1 else 0) n.toNat) : Rel e M2 ∧ M2 0 = M 0 := by
  have n3 := (pNw_bits hr hx ht1 hn hpt hb).1
  have hwb := (pNw_bits hr hx ht1 hn hpt hb).2.2.1
  obtain ⟨a1, ⟨a2, a2'⟩, a3, a4, ⟨b1, b2, b3, b4, b5⟩, a6, a7, a8, a9⟩ := had
  have hr' := hr
  obtain ⟨⟨gp, gt, gv, gb, ge⟩, h20, hall, hVV, h9⟩ := hr'
  have s4 := h1.2.2.2.1
  have s4' := s4
  obtain ⟨t1, t2, t3, t4, t5, t6, t7, t8⟩ := s4'
  obtain ⟨e180, e181, tP⟩ := t7.2
  have q0 : M0 18 = M 18 := h0 18 (by decide)
  -- cells of the class
  have c1 : ∀ j, ¬ (18 ≤ j ∧ j ≤ 27) → j ≠ 58 → M1 j = M j := fun j y1 y2 => by rw [a1 j (by omega), h0 j y2]
  have e59 : M1 59 = M 59 := c1 59 (by omega) (by decide)
  -- from the start to the end, as the reference sees it
  have hG : pGr M M2 kd t h w b ei n a := by
    obtain ⟨g1, ⟨g2, g2'⟩, g3, g9, g10, g11⟩ := hg
    have k : ∀ j, 59 < j → j ≤ 99 → M1 j = M j := fun j y1 y2 => c1 j (by omega) (by omega)
    rw [e59] at g2 g2' g3 g9 g10 g11
    rw [k 68 (by omega) (by omega), k 69 (by omega) (by omega), k 70 (by omega) (by omega), k 72 (by omega) (by omega), k 73 (by omega) (by omega), k 74 (by omega) (by omega)] at g9
    rw [k 71 (by omega) (by omega)] at g11
    exact ⟨fun c hc hc2 => by rw [g1 c hc hc2, k c hc.1 hc.2], ⟨g2, g2'⟩, g3, g9, g10, g11⟩
  have hwP := pGr_P hr hG hP300 ht1 hrh hn hpt hww hw40
  obtain ⟨hwB, hwE⟩ := pGr_B hr hx hG ht1 hn hpt hb hei
  obtain ⟨hcn, hP2, h74⟩ := pGr_cng hG gp
  have hG' := hG
  obtain ⟨g1, ⟨g2, g2'⟩, ⟨g3, g4, g5, g6, g7, g8⟩, g9, g10, g11⟩ := hG'
  have D : ∀ j, 59 < j → j < 68 ∨ (74 < j ∧ j ≤ 99) → M2 j = M j := fun j y1 y2 => g1 j (by omega) (by omega)
  have d1 : ∀ j, ¬ (18 ≤ j ∧ j ≤ 27) → j ≠ 58 → (j < 59 ∨ 99 < j) → M2 j = M j := fun j y1 y2 y3 => by rw [hcl j y3, c1 j y1 y2]
  have dp : ∀ j, 18 ≤ j → j ≤ 27 → M2 j = M1 j := fun j y1 y2 => hcl j (by omega)
  have e10 := g2' 10 (by decide) (by decide)
  have e1' := g2' 1 (by decide) (by decide)
  have e25 := g2' 25 (by decide) (by decide)
  have P0 := gp.1
  have hwT : wfT M2 := by
    unfold wfT at *
    rw [D 60 (by omega) (by omega), D 61 (by omega) (by omega), D 62 (by omega) (by omega), e1']; exact gt
  have hsz : ∀ t k, mSz M2 t k = mSz M t k := fun t k => mSz_D ⟨D 61 (by omega) (by omega), D 62 (by omega) (by omega), D 63 (by omega) (by omega)⟩
  have hW2 : wOK M2 := by
    refine ⟨hwP, hwT, ?_, hwB, hwE⟩
    unfold wfVl at *
    rw [D 60 (by omega) (by omega), D 61 (by omega) (by omega), D 62 (by omega) (by omega), D 64 (by omega) (by omega), D 65 (by omega) (by omega), D 66 (by omega) (by omega), e1', e10]; exact gv
  have hN := pGr_N (F := M 26) hr hx hG hwP hwT hwB hP300 ht1 hn hpt hb hei (fun p hp => ⟨(tP p hp).2.2.2.2.1, (tP p hp).2.2.2.2.2⟩)
  obtain ⟨P, eP⟩ : ∃ P, P = M 59 18 := ⟨_, rfl⟩
  have eN : M0 18 1 = P := by rw [q0, e181, eP]
  rw [eN] at a2 a3 a4 b1 b2 b3 b4 b5 a6 a7 a8 a9
  rw [← eP] at g2 g3 g4 g5 g6 g7 g8 g9 g10 g11 hP2 hN P0 hP300
  have epc : pct M2 P = M 61 (6 * t + h) := by unfold pct; rw [D 61 (by omega) (by omega), g4, g5]
  have opc : ∀ p, isP M p → pct M2 p = pct M p := fun p hq => by unfold pct; rw [D 61 (by omega) (by omega), ((hcn 0).2.1 p hq).2.1, ((hcn 0).2.1 p hq).2.2.1]
  have nP : ∀ p, isP M p → p ≠ P := fun p hp => by have := hp.2; omega
  -- the class's cells of an old pattern
  have oC : ∀ p, isP M p → M2 19 p = M 19 p ∧ M2 20 p = M 20 p ∧ M2 21 p = M 21 p ∧ M2 22 p = M 22 p ∧ M2 23 p = M 23 p ∧ M2 25 p = M 25 p ∧ M2 26 p = M 26 p ∧ M2 27 p = M 27 p ∧ ∀ j, 0 ≤ j → j < 3 → M2 24 (p * 3 + j) = M 24 (p * 3 + j) := fun p hp => by
    have hpl := hp.2
    obtain ⟨k1, k2, k3, k4, k5, k7, k8, k9⟩ := a3 p (nP p hp)
    rw [dp 19 (by omega) (by omega), dp 20 (by omega) (by omega), dp 21 (by omega) (by omega), dp 22 (by omega) (by omega), dp 23 (by omega) (by omega), dp 24 (by omega) (by omega), dp 25 (by omega) (by omega), dp 26 (by omega) (by omega), dp 27 (by omega) (by omega)]
    rw [← h0 19 (by decide), ← h0 20 (by decide), ← h0 21 (by decide), ← h0 22 (by decide), ← h0 23 (by decide), ← h0 24 (by decide), ← h0 25 (by decide), ← h0 26 (by decide), ← h0 27 (by decide)]
    exact ⟨k1, k2, k3, k4, k5, k7, k8, k9, fun j j0 j1 => a4 (p * 3 + j) (by omega)⟩
  have m22 : smW (M0 (18 + 4)) a n.toNat = w := by
    rw [h0 (18 + 4) (by decide), hww]
    exact smW_c _ (fun j j0 j1 => (tP (a j) (hpt j j0 (by omega))).2.1)
  have m25 : orS (M0 (18 + 7)) a own n.toNat = b := by
    rw [h0 (18 + 7) (by decide), hb]
    exact orS_c _ (fun j j0 j1 => (tP (a j) (hpt j j0 (by omega))).2.2.1)
  have m27 : fkS (M0 (18 + 9)) a (if kind = 5 then 1 else 0) n.toNat = ei := by
    rw [h0 (18 + 9) (by decide), hei]
    exact fkS_c _ (fun j j0 j1 => (tP (a j) (hpt j j0 (by omega))).2.2.2.1)
  have m26 : M2 26 P = orS (M 26) a (if t = 0 then own else 0) n.toNat := by
    rw [dp 26 (by omega) (by omega), ← h0 (18 + 8) (by decide)]; exact a8
  have v19 : M2 19 P = kind := by rw [dp 19 (by omega) (by omega)]; exact b1
  have v20 : M2 20 P = t := by rw [dp 20 (by omega) (by omega)]; exact b2
  have v21 : M2 21 P = h := by rw [dp 21 (by omega) (by omega)]; exact b3
  have v22 : M2 22 P = w := by rw [dp 22 (by omega) (by omega), ← m22]; exact b4
  have v23 : M2 23 P = n := by rw [dp 23 (by omega) (by omega)]; exact b5
  have v24 : ∀ j, 0 ≤ j → j < n → M2 24 (P * 3 + j) = a j := fun j j0 j1 => by rw [dp 24 (by omega) (by omega)]; exact a6 j j0 j1
  have v25 : M2 25 P = b := by rw [dp 25 (by omega) (by omega), ← m25]; exact a7
  have v27 : M2 27 P = ei := by rw [dp 27 (by omega) (by omega), ← m27]; exact a9
  have ep : ∀ j, 0 ≤ j → j < n → prt M2 P j = a j := fun j j0 j1 => g10 j j0 j1
  have he01 : ei = 0 ∨ ei = 1 := by
    rw [hei]
    exact fkS_01 (by by_cases z : kind = 5; (rw [if_pos z]; exact Or.inr rfl); (rw [if_neg z]; exact Or.inl rfl)) _
  have hst2 : stc M2 M2 := by
    have Q : ∀ j, (j ≤ 17) → M2 j = M j := fun j hj => d1 j (by omega) (by omega) (by omega)
    refine ⟨?_, ?_, ?_, ?_, ?_, by rw [Q 1 (by omega), e25]; exact t6, ?_, ?_⟩
    · intro p hp
      rcases (hP2 p).mp hp with hq | hq
      · obtain ⟨o19, o20, o21, o22, o23, o25, o26, o27, o24⟩ := oC p hq
        obtain ⟨r1, r2, r3, r4, r5, r6⟩ := (hcn 0).2.1 p hq
        have er : ∀ j, 0 ≤ j → j < 3 → prt M2 p j = prt M p j := fun j j0 j1 => r6 j j0 j1
        obtain ⟨x1, x2, x3, x4, x5, x6⟩ := t1 p hq
        rw [o19, o21, r1, r3, opc p hq]
        refine ⟨x1, x2, x3, fun z => ⟨(x4 z).1, fun j j0 j1 => ?_⟩, fun z => ⟨(x5 z).1, ?_⟩, fun z => ⟨(x6 z).1, fun j j0 j1 => ?_⟩⟩
        · have := pct_rg gp gt hq z
          rw [o24 j j0 (by omega), er j j0 (by omega)]; exact (x4 z).2 j j0 j1
        · rw [o24 0 (by omega) (by omega), er 0 (by omega) (by omega)]; exact (x5 z).2
        · rw [o24 j j0 (by omega), er j j0 (by omega)]; exact (x6 z).2 j j0 j1
      · rw [hq, v19, v21, g3, g5, epc]
        have v24' : ∀ j, 0 ≤ j → j < n → M2 24 (P * 3 + j) = prt M2 P j := fun j j0 j1 => by rw [v24 j j0 j1, ep j j0 j1]
        rcases hn with ⟨k1, k2, k3, k4⟩ | ⟨k1, k2, k3, k4, k5⟩ | ⟨k1, k2, k3, k4, k5, k6, k7, k8⟩ | ⟨k1, k2, k3, k4, k5, k6, k7⟩ | ⟨k1, k2, k3, k4, k5, k6, k7⟩
        · refine ⟨rfl, fun _ => ?_, fun z => by omega, fun z => by omega, fun z => by omega, fun z => by omega⟩
          rcases k4 with ⟨y1, y2, y3⟩ | ⟨y1, y2, y3⟩
          · rw [if_pos (by omega)]; exact y2
          · rw [if_neg (by omega)]; exact y2
        · exact ⟨rfl, fun z => by omega, fun _ => k4, fun z => by omega, fun z => by omega, fun z => by omega⟩
        · exact ⟨rfl, fun z => by omega, fun z => by omega, fun _ => ⟨k5, fun j j0 j1 => v24' j j0 (by omega)⟩, fun z => by omega, fun z => by omega⟩
        · exact ⟨rfl, fun z => by omega, fun z => by omega, fun z => by omega, fun _ => ⟨k4, v24' 0 (by omega) (by omega)⟩, fun z => by omega⟩
        · exact ⟨rfl, fun z => by omega, fun z => by omega, fun z => by omega, fun z => by omega, fun _ => ⟨k3, fun j j0 j1 => v24' j j0 (by omega)⟩⟩
    · intro p hp z
      rcases (hP2 p).mp hp with hq | hq
      · rw [((hcn 0).2.1 p hq).1] at z
        rw [(oC p hq).2.2.2.2.1, opc p hq]; exact t2 p hq z
      · rw [hq] at z ⊢
        rw [g3] at z
        rw [v23, epc]
        rcases hn with ⟨k1, -⟩ | ⟨k1, -⟩ | ⟨k1, k2, k3, k4, -⟩ | ⟨k1, -⟩ | ⟨k1, -⟩
        · omega
        · omega
        · exact k4
        · omega
        · omega
    · unfold tCl at *
      rw [Q 2 (by omega), Q 3 (by omega), Q 4 (by omega), Q 5 (by omega), D 60 (by omega) (by omega), D 61 (by omega) (by omega), D 62 (by omega) (by omega), e1']; exact t3
    · unfold vCl vpc at *
      rw [Q 11 (by omega), Q 13 (by omega), Q 14 (by omega), D 61 (by omega) (by omega), D 64 (by omega) (by omega), D 65 (by omega) (by omega), D 66 (by omega) (by omega), e10]; exact t4
    · unfold vTy at *
      rw [Q 8 (by omega), Q 10 (by omega), D 64 (by omega) (by omega), e10]; exact t5
    · refine ⟨?_, by rw [dp 18 (by omega) (by omega), a2' 0 (by decide), q0]; exact e180, by rw [dp 18 (by omega) (by omega), a2, g2], fun p hp => ?_⟩
      · rw [Q 8 (by omega), Q 12 (by omega), Q 15 (by omega), Q 17 (by omega), D 67 (by omega) (by omega), e10]; exact t7.1
      · rcases (hP2 p).mp hp with hq | hq
        · obtain ⟨o19, o20, o21, o22, o23, o25, o26, o27, o24⟩ := oC p hq
          obtain ⟨r1, r2, r3, r4, r5, r6⟩ := (hcn 0).2.1 p hq
          obtain ⟨y1, y2, y3, y4, y5, y6⟩ := tP p hq
          rw [o20, o22, o25, o26, o27, r2, r4, r5, h74 p hq]
          refine ⟨y1, y2, y3, y4, y5, fun z x x0 x1 => ?_⟩
          rw [nmb_c (hcn 0) hq, tyN_c gp gt (hcn 0) 41 p x hq]; exact y6 z x x0 x1
        · rw [hq, v20, v22, v25, v27, m26, g4, g6, g7, g8]
          exact ⟨rfl, rfl, rfl, rfl, hN.1, hN.2⟩
    · refine ⟨by rw [Q 6 (by omega), D 63 (by omega) (by omega)]; exact t8.1, by rw [Q 7 (by omega)]; exact t8.2.1, fun tt t0 t1' hp => ?_, by rw [Q 2 (by omega), D 60 (by omega) (by omega)]; exact t8.2.2.2⟩
      rw [D 63 (by omega) (by omega)] at hp
      rw [e1'] at t1'
      rw [Q 7 (by omega), pMk_c (m := 0) (hcn 0)]
      exact t8.2.2.1 tt t0 t1' hp
  have X : ∀ j, (j = 28 ∨ 99 < j ∨ (30 ≤ j ∧ j ≤ 37) ∨ j = 0 ∨ (45 ≤ j ∧ j ≤ 57)) → M2 j = M j := fun j hj => d1 j (by omega) (by omega) (by omega)
  refine ⟨rel_mk (M1 := M1) hr h1 (fun c hc => X c (by omega)) e25 (fun x _ _ => hcn x) hst2 hW2 h74 (D 96 (by omega) (by omega)) (D 97 (by omega) (by omega)) (D 98 (by omega) (by omega)) (fun w => ?_) (D 79 (by omega) (by omega)) (D 80 (by omega) (by omega)) hw htl (X 45 (by omega)) (X 46 (by omega)) (D 81 (by omega) (by omega)) (X 53 (by omega)) (X 54 (by omega)) (X 55 (by omega)) (g2' 55 (by decide) (by decide)) (D 99 (by omega) (by omega)) ?_ hro, X 0 (by omega)⟩
  · have := hVV w
    unfold wfV at *
    simp only [hsz]
    rw [D 60 (by omega) (by omega), D 61 (by omega) (by omega), D 62 (by omega) (by omega), D 63 (by omega) (by omega), e1']; exact this
  · obtain ⟨x1, x5, x6⟩ := hx
    refine ⟨?_, ?_, fun p hp => ?_⟩
    · simp only [hsz]
      rw [D 60 (by omega) (by omega), D 63 (by omega) (by omega), e1']; exact x1
    · rw [D 67 (by omega) (by omega), e10]; exact x5
    · rcases (hP2 p).mp hp with hq | hq
      · rw [h74 p hq, ((hcn 0).2.1 p hq).2.2.2.2.1]; exact x6 p hq
      · rw [hq, g7, g8]; exact ⟨he01, hwb⟩
end PAV
