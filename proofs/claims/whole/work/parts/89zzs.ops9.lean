/-! ===== both sides answer alike: row ===== -/
section ROW
variable {e : yE} {d : Nat} {C C' D D' M M0 M1 M2 : xM}
/-- terms and types stay -/
def kpT (D D' : xM) : Prop := (∀ c, 59 < c → c < 75 → D' c = D c) ∧ D' 59 1 = D 59 1 ∧ D' 59 10 = D 59 10 ∧ D' 59 18 = D 59 18
theorem stc_m {x : Int} (hC : ∀ c, c ≤ 27 → c ≠ 1 → C' c = C c) (h : kpT D D') (hcn : cng D D' x) (h14 : C' 1 4 = D' 59 25) (hs : stc C D) : stc C' D' := by
  obtain ⟨g', e1, e10, e18⟩ := h
  have g := fun c (hc : 59 < c ∧ c < 75) => g' c hc.1 hc.2
  obtain ⟨s1, s2, s3, s4, s5, s6, s7, s8⟩ := hs
  have nb : ∀ p a, nmb D' p a ↔ nmb D p a := fun p a => by unfold nmb; rw [g 73 (by omega)]
  have htn : ∀ (n : Nat) (p a : Int), tyN D' n p a = tyN D n p a := by
    intro n
    induction n with
    | zero => intro p a; rfl
    | succ n ih =>
      intro p a
      unfold tyN pct prt
      rw [g 61 (by omega), g 68 (by omega), g 69 (by omega), g 70 (by omega), g 71 (by omega), g 73 (by omega)]
      simp only [ih]
  refine ⟨?_, ?_, ?_, ?_, ?_, h14, ?_, ?_⟩
  · unfold pCl isP pct prt at *
    rw [hC 19 (by decide) (by decide), hC 21 (by decide) (by decide), hC 24 (by decide) (by decide), g 61 (by omega), g 68 (by omega), g 69 (by omega), g 70 (by omega), g 71 (by omega), e18]; exact s1
  · unfold pCn isP pct at *
    rw [hC 23 (by decide) (by decide), g 61 (by omega), g 68 (by omega), g 69 (by omega), g 70 (by omega), e18]; exact s2
  · unfold tCl at *
    rw [hC 2 (by decide) (by decide), hC 3 (by decide) (by decide), hC 4 (by decide) (by decide), hC 5 (by decide) (by decide), g 60 (by omega), g 61 (by omega), g 62 (by omega), e1]; exact s3
  · unfold vCl vpc at *
    rw [hC 11 (by decide) (by decide), hC 13 (by decide) (by decide), hC 14 (by decide) (by decide), g 61 (by omega), g 64 (by omega), g 65 (by omega), g 66 (by omega), e10]; exact s4
  · unfold vTy at *
    rw [hC 8 (by decide) (by decide), hC 10 (by decide) (by decide), g 64 (by omega), e10]; exact s5
  · unfold tmR isP at *
    simp only [nb, htn]
    rw [hC 8 (by decide) (by decide), hC 12 (by decide) (by decide), hC 15 (by decide) (by decide), hC 17 (by decide) (by decide), hC 18 (by decide) (by decide), hC 20 (by decide) (by decide), hC 22 (by decide) (by decide), hC 25 (by decide) (by decide), hC 26 (by decide) (by decide), hC 27 (by decide) (by decide), g 67 (by omega), g 69 (by omega), g 72 (by omega), g 73 (by omega), g 74 (by omega), e10, e18]; exact s7
  · unfold plC at *
    simp only [pMk_c hcn]
    rw [hC 2 (by decide) (by decide), hC 6 (by decide) (by decide), hC 7 (by decide) (by decide), g 60 (by omega), g 63 (by omega), e1]; exact s8
theorem wOK_m (h : kpT D D') (hs : wOK D) : wOK D' := by
  obtain ⟨g', e1, e10, e18⟩ := h
  have g := fun c (hc : 59 < c ∧ c < 75) => g' c hc.1 hc.2
  have nb : ∀ p a, nmb D' p a ↔ nmb D p a := fun p a => by unfold nmb; rw [g 73 (by omega)]
  obtain ⟨gp, gt, gv, gb, ge⟩ := hs
  refine ⟨?_, ?_, ?_, ?_, ?_⟩
  · unfold wfP isP pct prt at *
    rw [g 60 (by omega), g 61 (by omega), g 62 (by omega), g 68 (by omega), g 69 (by omega), g 70 (by omega), g 71 (by omega), g 72 (by omega), e1, e18]; exact gp
  · unfold wfT at *
    rw [g 60 (by omega), g 61 (by omega), g 62 (by omega), e1]; exact gt
  · unfold wfVl at *
    rw [g 60 (by omega), g 61 (by omega), g 62 (by omega), g 64 (by omega), g 65 (by omega), g 66 (by omega), e1, e10]; exact gv
  · unfold wfB isP pct prt at *
    simp only [nb]
    rw [g 61 (by omega), g 68 (by omega), g 69 (by omega), g 70 (by omega), g 71 (by omega), e18]; exact gb
  · unfold wfE noE isP pct prt at *
    rw [g 61 (by omega), g 68 (by omega), g 69 (by omega), g 70 (by omega), g 71 (by omega), g 74 (by omega), e18]; exact ge
theorem wfV_m (h : kpT D D') (hs : wfV D) : wfV D' := by
  obtain ⟨g', e1, e10, e18⟩ := h
  have g := fun c (hc : 59 < c ∧ c < 75) => g' c hc.1 hc.2
  have hsz : ∀ t k, mSz D' t k = mSz D t k := fun t k => mSz_D ⟨g 61 (by omega), g 62 (by omega), g 63 (by omega)⟩
  unfold wfV at *
  simp only [hsz]
  rw [g 60 (by omega), g 61 (by omega), g 62 (by omega), g 63 (by omega), e1]; exact hs
theorem rfX_m (h : kpT D D') (hs : rfX D) : rfX D' := by
  obtain ⟨g', e1, e10, e18⟩ := h
  have g := fun c (hc : 59 < c ∧ c < 75) => g' c hc.1 hc.2
  have hsz : ∀ t k, mSz D' t k = mSz D t k := fun t k => mSz_D ⟨g 61 (by omega), g 62 (by omega), g 63 (by omega)⟩
  unfold rfX isP at *
  simp only [hsz]
  rw [g 60 (by omega), g 63 (by omega), g 67 (by omega), g 73 (by omega), g 74 (by omega), e1, e10, e18]; exact hs
/-- the match with its new row is in order -/
theorem mOK_row {m g1 g2 : Int} {A : Int → Int} (hW : wOK M) (hx : rfX M) (hO : mOK M m) (hc : rwC M m A g1 g2) (hk : kpT M M2) (h75 : M2 75 = M 75) (h76 : M2 76 = M 76) (h77 : M2 77 m = M 77 m + 1) (h78 : ∀ k, 0 ≤ k → k < M 75 m → M2 78 (36 * m + 3 * M 77 m + k) = A k) (h78' : ∀ i, ¬ (36 * m + 3 * M 77 m ≤ i ∧ i < 36 * m + 3 * M 77 m + M 75 m) → M2 78 i = M 78 i) (h79 : M2 79 (12 * m + M 77 m) = g1 ∧ ∀ i, i ≠ 12 * m + M 77 m → M2 79 i = M 79 i) (h80 : M2 80 (12 * m + M 77 m) = g2 ∧ ∀ i, i ≠ 12 * m + M 77 m → M2 80 i = M 80 i) : mOK M2 m := by
  obtain ⟨⟨a1, a2, a3, a4, a5⟩, b, c, dd, g⟩ := hO
  obtain ⟨k', e1, e10, e18⟩ := hk
  have kk := fun c (hc : 59 < c ∧ c < 75) => k' c hc.1 hc.2
  obtain ⟨c12, cP, cA, cG⟩ := hc
  have nb : ∀ p a, nmb M2 p a ↔ nmb M p a := fun p a => by unfold nmb; rw [kk 73 (by omega)]
  obtain ⟨R, eR⟩ : ∃ R, R = M 77 m := ⟨_, rfl⟩
  rw [← eR] at h77 h78 h78' h79 h80 a3 c12
  have isp : ∀ p, isP M2 p ↔ isP M p := fun p => by unfold isP; rw [e18]
  have new : ∀ k, 0 ≤ k → k < M 75 m → rpt M2 m R k = A k := h78
  have old : ∀ r k, 0 ≤ r → r < R → 0 ≤ k → k < M 75 m → M2 78 (36 * m + 3 * r + k) = M 78 (36 * m + 3 * r + k) := fun r k r0 r1 k0 k1 => h78' _ (by omega)
  have old' : ∀ r k, 0 ≤ r → r < R → 0 ≤ k → k < M 75 m → rpt M2 m r k = rpt M m r k := old
  have gR : g1 = -1 ∨ (0 ≤ g1 ∧ g1 < 16) := by
    rcases cG with z | ⟨-, z, -⟩
    · exact Or.inl z
    · exact Or.inr z.1
  rw [← eR] at a5
  refine ⟨⟨a1, by rw [h75]; exact a2, by rw [h77]; omega, fun k k0 k1 => ?_, fun r k r0 r1 k0 k1 => ?_⟩, fun r r0 r1 hg a ha => ?_, fun r j k a r0 r1 j0 j1 k0 k1 hjk a0 a1 => ?_, fun r r0 r1 hg k k0 k1 => ?_, fun r r0 r1 => ?_⟩
  · rw [h75] at k1
    rw [h76, e1, kk 63 (by omega)]; exact a4 k k0 k1
  · rw [h75] at k1; rw [h77] at r1
    rw [h76, kk 69 (by omega), isp]
    by_cases z : r = R
    · rw [z, h78 k k0 k1]; exact cP k k0 k1
    · rw [old r k r0 (by omega) k0 k1]; exact a5 r k r0 (by omega) k0 k1
  · rw [h77] at r1
    by_cases z : r = R
    · rw [z] at hg ha ⊢
      rw [h79.1] at hg ha
      rw [h80.1] at ha
      rcases cG with u | ⟨u0, u1, u2⟩
      · omega
      · rcases ha with v | v
        · obtain ⟨v0, k, k0, k1, v1, -⟩ := u1
          rw [v]
          exact ⟨v0, k, ⟨k0, by rw [h75]; exact k1⟩, by rw [h78 k k0 k1, nb]; exact v1⟩
        · obtain ⟨v0, k, k0, k1, v1, -⟩ := u2
          rw [v]
          exact ⟨v0, k, ⟨k0, by rw [h75]; exact k1⟩, by rw [h78 k k0 k1, nb]; exact v1⟩
    · rw [h79.2 _ (by omega)] at hg ha
      rw [h80.2 _ (by omega)] at ha
      obtain ⟨v0, k, ⟨k0, k1⟩, v1⟩ := b r r0 (by omega) hg a ha
      exact ⟨v0, k, ⟨k0, by rw [h75]; exact k1⟩, by rw [old r k r0 (by omega) k0 k1, nb]; exact v1⟩
  · rw [h75] at j1 k1; rw [h77] at r1
    rw [nb, nb]
    by_cases z : r = R
    · rw [z, new j j0 j1, new k k0 k1]
      have hw : ∀ j, 0 ≤ j → j < M 75 m → nmW (M 73 (A j)) := fun j j0 j1 => (hx.2.2 _ (cP j j0 j1).1).2
      by_cases y : j < k
      · exact apS_n hw cA a0 a1 j0 y k1
      · intro u; exact apS_n hw cA a0 a1 k0 (show k < j by omega) j1 ⟨u.2, u.1⟩
    · rw [old' r j r0 (by omega) j0 j1, old' r k r0 (by omega) k0 k1]
      exact c r j k a r0 (by omega) j0 j1 k0 k1 hjk a0 a1
  · rw [h75] at k1; rw [h77] at r1
    unfold noE
    rw [kk 74 (by omega)]
    by_cases z : r = R
    · rw [z] at hg ⊢
      rw [h79.1] at hg
      rw [new k k0 k1]
      rcases cG with u | ⟨u0, -, -⟩
      · omega
      · exact u0 k k0 k1
    · rw [h79.2 _ (by omega)] at hg
      rw [old' r k r0 (by omega) k0 k1]
      exact dd r r0 (by omega) hg k k0 k1
  · by_cases z : r = R
    · rw [z, h79.1]; exact gR
    · rw [h79.2 _ (by omega)]; exact g r r0 r1
theorem rel_row {m g1 g2 : Int} {A : Int → Int} {cs cl mq : Nat} (hr : rOK M) (h1 : cRel e M M cs cl) (hw : wkR M M) (htl : tlR M M) (hx : rfX M) (hro : rom e M cs cl) (hm : 0 ≤ m ∧ m < M 59 25) (hmq : M 28 m = (mq : Int)) (hc : rwC M m A g1 g2) (hg1 : rg g1) (h0 : ∀ j, j ≠ 58 → M0 j = M j) (hC : cRw M0 M1 mq (M 75 m) g1 g2 A) (hR : rRw M1 M2 m A g1 g2) : Rel e M2 ∧ M2 0 = M 0 := by
  obtain ⟨s1, s2, s3, s4, s5, s6, s7⟩ := h1
  obtain ⟨mq', q1, q2, q3, q4, q5, q6, q7⟩ := s5 m hm.1 hm.2
  obtain rfl : mq' = mq := by have : (mq' : Int) = mq := by rw [← q1, hmq]
                              omega
  obtain ⟨c1, ⟨c2, c3, c4⟩, c5, c6, c7, c8⟩ := hC
  obtain ⟨r1, r2, r3, r4, r5, r6, r7, r8, r9⟩ := hR
  have hr' := hr
  obtain ⟨hW, h20, hall, hVV, h9⟩ := hr'
  obtain ⟨hO, hL⟩ := hall m hm.1 hm.2
  have hO' := hO
  obtain ⟨⟨m20, w3, rw12, -⟩, -⟩ := hO'
  -- class cells
  have f1 : ∀ j, j ≠ 58 → j ≠ mq' → j ≠ mq' + 2 → j ≠ mq' + 3 → j ≠ mq' + 4 → M1 j = M j := fun j y0 y1 y2 y3 y4 => by rw [c1 j y1 y2 y3 y4, h0 j y0]
  have lo : ∀ j, j ≠ 58 → j ≤ 99 → M1 j = M j := fun j y0 y1 => f1 j y0 (by omega) (by omega) (by omega) (by omega)
  have hi2 : ∀ j, (j < 59 ∨ 99 < j) → M2 j = M1 j := fun j hj => r1 j (by omega) (by omega) (by omega) (by omega) (by omega) (by omega)
  rw [lo 77 (by decide) (by decide)] at r3 r4 r5 r6 r7
  rw [lo 75 (by decide) (by decide)] at r4 r5
  rw [lo 78 (by decide) (by decide)] at r5
  rw [lo 79 (by decide) (by decide)] at r6
  rw [lo 80 (by decide) (by decide)] at r7
  rw [lo 96 (by decide) (by decide)] at r9
  have D : ∀ j, 59 < j → j ≤ 99 → j ≠ 77 → j ≠ 78 → j ≠ 79 → j ≠ 80 → j ≠ 96 → M2 j = M j := fun j y1 y2 y3 y4 y5 y6 y7 => by rw [r1 j (by omega) y3 y4 y5 y6 y7, lo j (by omega) y2]
  have d59 : ∀ i, i ≠ 0 → M2 59 i = M 59 i := fun i hi => by rw [r2 i hi, lo 59 (by decide) (by decide)]
  have K : ∀ j, j < 58 → M2 j = M j := fun j hj => by rw [hi2 j (by omega), lo j (by omega) (by omega)]
  have kT : kpT M M2 := ⟨fun c y0 y1 => D c y0 (by omega) (by omega) (by omega) (by omega) (by omega) (by omega), d59 1 (by decide), d59 10 (by decide), d59 18 (by decide)⟩
  have e25 := d59 25 (by decide)
  have q0 : M0 mq' = M mq' := h0 mq' (by omega)
  have eR : M0 mq' 2 = M 77 m := by rw [q0]; exact q4.2.1
  rw [eR] at c2 c5 c6 c7 c8
  obtain ⟨R, hRR⟩ : ∃ R, R = M 77 m := ⟨_, rfl⟩
  have c12 := hc.1
  rw [← hRR] at c2 c5 c6 c7 c8 r3 r4 r5 r6 r7 rw12 c12
  have hcn : ∀ x, x ≠ m → cng M M2 x := fun x hx' => by
    refine ⟨by rw [kT.2.2.2]; exact Int.le_refl _, fun p _ => ?_, ?_, fun r y0 y1 => ⟨r6.2 _ (by omega), r7.2 _ (by omega)⟩, ?_⟩
    · rw [kT.1 68 (by omega) (by omega), kT.1 69 (by omega) (by omega), kT.1 70 (by omega) (by omega), kT.1 72 (by omega) (by omega), kT.1 73 (by omega) (by omega), kT.1 71 (by omega) (by omega)]; exact ⟨rfl, rfl, rfl, rfl, rfl, fun _ _ _ => rfl⟩
    · rw [kT.1 60 (by omega) (by omega), kT.1 61 (by omega) (by omega), kT.1 62 (by omega) (by omega), kT.1 63 (by omega) (by omega), kT.2.1]; exact ⟨rfl, rfl, rfl, rfl, Int.le_refl _⟩
    · rw [D 75 (by omega) (by omega) (by omega) (by omega) (by omega) (by omega) (by omega), D 76 (by omega) (by omega) (by omega) (by omega) (by omega) (by omega) (by omega)]
      exact ⟨rfl, r3.2 x hx', fun _ _ _ => rfl, fun i i0 i1 => r5 _ (by omega)⟩
  have hm1 : m + 1 ≠ m := by omega
  have hst2 : stc M2 M2 := stc_m (fun c hc _ => K c (by omega)) kT (hcn (m + 1) hm1) (by rw [K 1 (by omega), e25]; exact s4.2.2.2.2.2.1) s4
  have hO2 : mOK M2 m := mOK_row hW hx hO hc kT (D 75 (by omega) (by omega) (by omega) (by omega) (by omega) (by omega) (by omega)) (D 76 (by omega) (by omega) (by omega) (by omega) (by omega) (by omega) (by omega)) (by rw [← hRR]; exact r3.1) (by rw [← hRR]; exact r4) (by rw [← hRR]; exact r5) (by rw [← hRR]; exact r6) (by rw [← hRR]; exact r7)
  have hcr : cRel e M2 M2 cs cl := by
    refine ⟨s1, s2, ?_, hst2, fun x x0 x1 => ?_, ?_, s7⟩
    · have hCC : ∀ j, isC e j → M2 j = M j := by
        intro j hj
        have hj3 := hj.2.2.2
        rw [hi2 j hj3]
        refine f1 j (fun u => ?_) (fun u => ?_) (fun u => ?_) (fun u => ?_) (fun u => ?_)
        · rw [u] at hj; exact nC_fix s1 (by decide) (by decide) (by omega) (by omega) hj
        · rw [u] at hj; exact nC_o (t := 13) q2.2.2.1 hj
        · rw [u] at hj; exact nC_a (a3_2 q2) (by decide) hj
        · rw [u] at hj; exact nC_a (a3_3 q2) (by decide) hj
        · rw [u] at hj
          have z := hj.2.1
          rw [q2.2.2.2.2.2.2.1] at z
          exact absurd z (by decide)
      obtain ⟨a, -, -⟩ := hpC_cg (M' := M2) s3.1 (K 30 (by omega)) (K 34 (by omega)) hCC
      exact ⟨a, s3.2⟩
    · rw [e25] at x1
      by_cases z : x = m
      · subst z
        refine ⟨mq', by rw [K 28 (by omega)]; exact q1, q2, q3, ?_, ?_, Or.inr (by rw [hi2 mq' (by omega)]; exact c3), fun u => ?_⟩
        · have u1 : M2 mq' 0 = M mq' 0 := by rw [hi2 mq' (by omega), c4 0 (by decide) (by decide), q0]
          have u2 : M2 (mq' + 1) = M (mq' + 1) := by rw [hi2 (mq' + 1) (by omega), f1 (mq' + 1) (by omega) (by omega) (by omega) (by omega) (by omega)]
          unfold mCl
          rw [D 75 (by omega) (by omega) (by omega) (by omega) (by omega) (by omega) (by omega), D 76 (by omega) (by omega) (by omega) (by omega) (by omega) (by omega) (by omega), u1, u2, r3.1, hi2 mq' (by omega), hi2 (mq' + 2) (by omega)]
          refine ⟨q4.1, c2, q4.2.2.1, fun r k r0 r1 k0 k1 => ?_⟩
          by_cases y : r = R
          · rw [y, c5 k k0 k1, r4 k k0 k1]
          · rw [c6 _ (by omega), h0 (mq' + 2) (by omega), r5 _ (by omega)]
            exact q4.2.2.2 r k r0 (by omega) k0 k1
        · intro r r0 r1
          rw [hi2 (mq' + 3) (by omega), hi2 (mq' + 4) (by omega)]
          by_cases y : r = R
          · rw [y, c7.1, c8.1, r6.1, r7.1]; exact ⟨rfl, rfl⟩
          · rw [c7.2 r y, c8.2 r y, h0 (mq' + 3) (by omega), h0 (mq' + 4) (by omega), r6.2 _ (by omega), r7.2 _ (by omega)]; exact q5 r r0 r1
        · rw [hi2 mq' (by omega), c3] at u; omega
      · obtain ⟨nq, n1, n2, n3, -⟩ := s5 x x0 x1
        have hdj := s6 x m x0 x1 hm.1 hm.2 z
        rw [n1, q1] at hdj
        refine mtC_c hW.1 hW.2.1 (hall x x0 x1).1.1 (K 28 (by omega)) (fun nq' hn j y1 y2 => ?_) (hcn x z) (s5 x x0 x1)
        have : (nq' : Int) = nq := by rw [← hn, n1]
        rw [hi2 j (by omega)]
        exact f1 j (by omega) (by omega) (by omega) (by omega) (by omega)
    · unfold dsj at *
      rw [e25, K 28 (by omega)]; exact s6
  refine ⟨⟨cs, cl, hcr, ⟨wOK_m kT hW, by rw [e25]; exact h20, fun x x0 x1 => ?_, fun z => wfV_m kT (hVV (by rw [← e25]; exact z)), fun i i0 i1 => ?_, fun x x0 x1 => ?_⟩, wkR_k hw (K 45 (by omega)) (K 46 (by omega)) (D 81 (by omega) (by omega) (by omega) (by omega) (by omega) (by omega) (by omega)), tlR_k htl (K 53 (by omega)) (K 54 (by omega)) (K 55 (by omega)) (d59 55 (by decide)) (D 99 (by omega) (by omega) (by omega) (by omega) (by omega) (by omega) (by omega)), rfX_m kT hx, ?_⟩, K 0 (by omega)⟩
  · rw [e25] at x1
    by_cases z : x = m
    · subst z
      exact ⟨hO2, Or.inl r8, fun u => by rw [r8] at u; omega⟩
    · exact ⟨mOK_c (hcn x z) (fun p _ => by rw [kT.1 74 (by omega) (by omega)]) (hall x x0 x1).1, lkO_c hW.1 hW.2.1 (hall x x0 x1).1.1 (hcn x z) (r9 x z) (by rw [D 97 (by omega) (by omega) (by omega) (by omega) (by omega) (by omega) (by omega)]) (fun k _ _ => by rw [D 98 (by omega) (by omega) (by omega) (by omega) (by omega) (by omega) (by omega)]) (hall x x0 x1).2⟩
  · by_cases z : i = 12 * m + R
    · rw [z, r6.1]; exact hg1
    · rw [r6.2 i z]; exact h9.1 i i0 i1
  · rw [e25] at x0
    obtain ⟨n1, n2⟩ := h9.2 x x0 x1
    refine ⟨by rw [r9 x (by omega)]; exact n1, fun r r0 r1 => ?_⟩
    rw [r6.2 _ (by omega), r7.2 _ (by omega)]; exact n2 r r0 r1
  · unfold rom at *
    rw [e25]; exact hro
end ROW
