/-! ===== a value more ===== -/
/-- the reference has a value more -/
def vGr (D D' : xM) (t h s n : Int) (a : Int → Int) : Prop := (∀ c, c ≠ 59 → c ≠ 64 → c ≠ 65 → c ≠ 66 → c ≠ 67 → D' c = D c) ∧ (D' 59 10 = D 59 10 + 1 ∧ ∀ i, i ≠ 0 → i ≠ 10 → D' 59 i = D 59 i) ∧ (D' 64 (D 59 10) = t ∧ D' 65 (D 59 10) = h ∧ D' 67 (D 59 10) = s) ∧ (∀ i, i ≠ D 59 10 → D' 64 i = D 64 i ∧ D' 65 i = D 65 i ∧ D' 67 i = D 67 i) ∧ (∀ j, 0 ≤ j → j < n → D' 66 (3 * D 59 10 + j) = a j) ∧ ∀ i, i < 3 * D 59 10 → D' 66 i = D 66 i
section VAL
variable {e : yE} {d : Nat} {M M0 M1 M2 : xM}
theorem orS_0 {f a : Int → Int} : ∀ n : Nat, (∀ j : Int, 0 ≤ j → j < n → f (a j) = 0) → orS f a 0 n = 0 := by
  intro n
  induction n with
  | zero => intro _; rfl
  | succ n ih =>
    intro h
    show xor32 (orS f a 0 n) (f (a n)) = 0
    rw [ih (fun j j0 j1 => h j j0 (by omega)), h n (by omega) (by omega)]; decide
theorem fkS_0 {f a : Int → Int} : ∀ n : Nat, (∀ j : Int, 0 ≤ j → j < n → f (a j) = 0) → fkS f a 0 n = 0 := by
  intro n
  induction n with
  | zero => intro _; rfl
  | succ n ih =>
    intro h
    show (if fkS f a 0 n ≠ 0 then (1 : Int) else if f (a n) = 0 then 0 else 1) = 0
    rw [if_neg (by rw [ih (fun j j0 j1 => h j j0 (by omega))]; exact fun z => z rfl), if_pos (h n (by omega) (by omega))]
theorem rel_val {t h s n kind : Int} {a : Int → Int} {cs cl : Nat} (hr : rOK M) (h1 : cRel e M M cs cl) (hw : wkR M M) (ht : tlR M M) (hx : rfX M) (hro : rom e M cs cl) (hV300 : M 59 10 < 300) (h0 : ∀ j, j ≠ 58 → M0 j = M j) (had : adT 8 M0 M1 kind t h n 0 a) (hg : vGr M1 M2 t h s n a)
    (ht1 : 0 ≤ t ∧ t < M 59 1) (hrh : rg h) (hs1 : 1 ≤ s ∧ s ≤ 100) (hk5 : kind ≠ 5) (hsw : s = smW (M 12) a n.toNat) (hn : n = if t = 0 then 0 else M 61 (6 * t + h)) (hmk : t ≠ 0 → 0 ≤ h ∧ h < M 60 t) (hpt : ∀ j, 0 ≤ j → j < n → (0 ≤ a j ∧ a j < M 59 10) ∧ M 64 (a j) = M 62 (3 * (6 * t + h) + j)) : Rel e M2 ∧ M2 0 = M 0 := by
  obtain ⟨a1, ⟨a2, a2'⟩, a3, a4, ⟨b1, b2, b3, b4, b5⟩, a6, a7, a8, a9⟩ := had
  obtain ⟨g1, ⟨g2, g2'⟩, ⟨g3, g4, g5⟩, g6, g7, g8⟩ := hg
  have hr' := hr
  obtain ⟨⟨gp, gt, gv, gb, ge⟩, h20, hall, hVV, h9⟩ := hr'
  have s4 := h1.2.2.2.1
  have e81 : M 8 1 = M 59 10 := s4.2.2.2.2.1.1
  have q0 : M0 8 = M 8 := h0 8 (by decide)
  obtain ⟨V, eV⟩ : ∃ V, V = M 59 10 := ⟨_, rfl⟩
  have eN : M0 8 1 = V := by rw [q0, e81, eV]
  rw [eN] at a2 a3 a4 b1 b2 b3 b4 b5 a6 a7 a8 a9
  -- cells of the class
  have c1 : ∀ j, ¬ (8 ≤ j ∧ j ≤ 17) → j ≠ 58 → M1 j = M j := fun j y1 y2 => by rw [a1 j (by omega), h0 j y2]
  have e59 : M1 59 = M 59 := c1 59 (by omega) (by decide)
  have eV1 : M1 59 10 = V := by rw [e59, eV]
  rw [eV1] at g2 g3 g4 g5 g6 g7 g8
  have d1 : ∀ j, ¬ (8 ≤ j ∧ j ≤ 17) → j ≠ 58 → j ≠ 59 → j ≠ 64 → j ≠ 65 → j ≠ 66 → j ≠ 67 → M2 j = M j := fun j y1 y2 y3 y4 y5 y6 y7 => by rw [g1 j y3 y4 y5 y6 y7, c1 j y1 y2]
  have dv : ∀ j, 8 ≤ j → j ≤ 17 → M2 j = M1 j := fun j y1 y2 => g1 j (by omega) (by omega) (by omega) (by omega) (by omega)
  have d59 : ∀ i, i ≠ 0 → i ≠ 10 → M2 59 i = M 59 i := fun i y1 y2 => by rw [g2' i y1 y2, e59]
  have k64 : M1 64 = M 64 := c1 64 (by omega) (by decide)
  have k65 : M1 65 = M 65 := c1 65 (by omega) (by decide)
  have k66 : M1 66 = M 66 := c1 66 (by omega) (by decide)
  have k67 : M1 67 = M 67 := c1 67 (by omega) (by decide)
  have e18 := d59 18 (by decide) (by decide)
  have e1' := d59 1 (by decide) (by decide)
  have e25 := d59 25 (by decide) (by decide)
  have D : ∀ j, 59 < j → j < 64 ∨ (67 < j ∧ j ≤ 99) → M2 j = M j := fun j y1 y2 => d1 j (by omega) (by omega) (by omega) (by omega) (by omega) (by omega) (by omega)
  have hcn : ∀ x, cng M M2 x := fun x => by
    refine ⟨by rw [e18]; exact Int.le_refl _, fun p _ => ?_, ?_, fun r _ _ => ?_, ?_⟩
    · rw [D 68 (by omega) (by omega), D 69 (by omega) (by omega), D 70 (by omega) (by omega), D 72 (by omega) (by omega), D 73 (by omega) (by omega), D 71 (by omega) (by omega)]; exact ⟨rfl, rfl, rfl, rfl, rfl, fun _ _ _ => rfl⟩
    · rw [D 60 (by omega) (by omega), D 61 (by omega) (by omega), D 62 (by omega) (by omega), D 63 (by omega) (by omega), e1']; exact ⟨rfl, rfl, rfl, rfl, Int.le_refl _⟩
    · rw [D 79 (by omega) (by omega), D 80 (by omega) (by omega)]; exact ⟨rfl, rfl⟩
    · rw [D 75 (by omega) (by omega), D 76 (by omega) (by omega), D 77 (by omega) (by omega), D 78 (by omega) (by omega)]; exact ⟨rfl, rfl, fun _ _ _ => rfl, fun _ _ _ => rfl⟩
  have hsz : ∀ t k, mSz M2 t k = mSz M t k := fun t k => mSz_D ⟨D 61 (by omega) (by omega), D 62 (by omega) (by omega), D 63 (by omega) (by omega)⟩
  have nb : ∀ p a, nmb M2 p a ↔ nmb M p a := fun p a => by unfold nmb; rw [D 73 (by omega) (by omega)]
  have V0 : 0 ≤ V := by rw [eV]; exact gv.1.1
  have old : ∀ v, v ≠ V → M2 64 v = M 64 v ∧ M2 65 v = M 65 v ∧ M2 67 v = M 67 v := fun v hv => by rw [(g6 v hv).1, (g6 v hv).2.1, (g6 v hv).2.2, k64, k65, k67]; exact ⟨rfl, rfl, rfl⟩
  have o66 : ∀ i, i < 3 * V → M2 66 i = M 66 i := fun i hi => by rw [g8 i hi, k66]
  have n3 : 0 ≤ n ∧ n ≤ 3 := by
    rw [hn]
    by_cases z : t = 0
    · rw [if_pos z]; omega
    · rw [if_neg z]; have := hmk z; have := (gt.2.2.2 t h ht1.1 ht1.2 this.1 this.2).1; omega
  have hWv : wfVl M2 := by
    refine ⟨by rw [g2]; omega, fun v v0 v1 => ?_⟩
    rw [g2] at v1
    rw [D 60 (by omega) (by omega), D 61 (by omega) (by omega), D 62 (by omega) (by omega), e1']
    by_cases hv : v = V
    · subst hv
      rw [g3, g4]
      refine ⟨hrh, ht1, fun tp => ⟨hmk (by omega), fun j j0 j1 => ?_⟩⟩
      have hnj : n = M 61 (6 * t + h) := by rw [hn, if_neg (by omega)]
      rw [g7 j j0 (by omega)]
      obtain ⟨p1, p2⟩ := hpt j j0 (by omega)
      rw [(old (a j) (by omega)).1]
      exact ⟨by omega, p2⟩
    · obtain ⟨o1, o2, o3⟩ := gv.2 v v0 (by omega)
      rw [(old v hv).1, (old v hv).2.1]
      refine ⟨o1, o2, fun tp => ⟨(o3 tp).1, fun j j0 j1 => ?_⟩⟩
      have h3 := (gt.2.2.2 _ _ o2.1 o2.2 (o3 tp).1.1 (o3 tp).1.2).1
      rw [o66 (3 * v + j) (by omega)]
      obtain ⟨p1, p2⟩ := (o3 tp).2 j j0 j1
      rw [(old (M 66 (3 * v + j)) (by omega)).1]
      exact ⟨p1, p2⟩
  have hW2 : wOK M2 := by
    refine ⟨?_, ?_, hWv, ?_, ?_⟩
    · unfold wfP isP pct prt at *
      rw [D 60 (by omega) (by omega), D 61 (by omega) (by omega), D 62 (by omega) (by omega), D 68 (by omega) (by omega), D 69 (by omega) (by omega), D 70 (by omega) (by omega), D 71 (by omega) (by omega), D 72 (by omega) (by omega), e1', e18]; exact gp
    · unfold wfT at *
      rw [D 60 (by omega) (by omega), D 61 (by omega) (by omega), D 62 (by omega) (by omega), e1']; exact gt
    · unfold wfB isP pct prt at *
      simp only [nb]
      rw [D 61 (by omega) (by omega), D 68 (by omega) (by omega), D 69 (by omega) (by omega), D 70 (by omega) (by omega), D 71 (by omega) (by omega), e18]; exact gb
    · unfold wfE noE isP pct prt at *
      rw [D 61 (by omega) (by omega), D 68 (by omega) (by omega), D 69 (by omega) (by omega), D 70 (by omega) (by omega), D 71 (by omega) (by omega), D 74 (by omega) (by omega), e18]; exact ge
  have hst2 : stc M2 M2 := by
    obtain ⟨t1, t2, t3, t4, t5, t6, t7, t8⟩ := s4
    have P : ∀ j, (j ≤ 7 ∨ (18 ≤ j ∧ j ≤ 27)) → M2 j = M j := fun j hj => d1 j (by omega) (by omega) (by omega) (by omega) (by omega) (by omega) (by omega)
    refine ⟨?_, ?_, ?_, ?_, ?_, by rw [P 1 (by omega), e25]; exact t6, ?_, ?_⟩
    · unfold pCl isP pct prt at *
      rw [P 19 (by omega), P 21 (by omega), P 24 (by omega), D 61 (by omega) (by omega), D 68 (by omega) (by omega), D 69 (by omega) (by omega), D 70 (by omega) (by omega), D 71 (by omega) (by omega), e18]; exact t1
    · unfold pCn isP pct at *
      rw [P 23 (by omega), D 61 (by omega) (by omega), D 68 (by omega) (by omega), D 69 (by omega) (by omega), D 70 (by omega) (by omega), e18]; exact t2
    · unfold tCl at *
      rw [P 2 (by omega), P 3 (by omega), P 4 (by omega), P 5 (by omega), D 60 (by omega) (by omega), D 61 (by omega) (by omega), D 62 (by omega) (by omega), e1']; exact t3
    · intro v v0 v1
      rw [g2] at v1
      rw [dv 11 (by omega) (by omega), dv 13 (by omega) (by omega), dv 14 (by omega) (by omega)]
      by_cases hv : v = V
      · subst hv
        have hvp : vpc M2 v = n := by unfold vpc; rw [g3, g4, D 61 (by omega) (by omega), hn]
        rw [hvp, g4]
        exact ⟨b3, b5, fun j j0 j1 => by rw [a6 j j0 j1, g7 j j0 j1]⟩
      · obtain ⟨u1, u2, u3⟩ := t4 v v0 (by omega)
        have hvp : vpc M2 v = vpc M v := by unfold vpc; rw [(old v hv).1, (old v hv).2.1, D 61 (by omega) (by omega)]
        have hv3 := vpc_rg gv gt v0 (by omega)
        obtain ⟨k1, k2, k3, k4, k5, k7, k8, k9⟩ := a3 v hv
        rw [hvp, (old v hv).2.1]
        refine ⟨by rw [k3, h0 _ (by decide)]; exact u1, by rw [k5, h0 _ (by decide)]; exact u2, fun j j0 j1 => ?_⟩
        rw [a4 (v * 3 + j) (by omega), h0 _ (by decide), o66 (3 * v + j) (by omega)]
        exact u3 j j0 j1
    · refine ⟨by rw [dv 8 (by omega) (by omega), a2, g2], fun v v0 v1 => ?_⟩
      rw [g2] at v1
      rw [dv 10 (by omega) (by omega)]
      by_cases hv : v = V
      · subst hv; rw [g3]; exact b2
      · rw [(old v hv).1, (a3 v hv).2.1, h0 _ (by decide)]; exact t5.2 v v0 (by omega)
    · have htn : ∀ (n : Nat) (p a : Int), tyN M2 n p a = tyN M n p a := by
        intro n
        induction n with
        | zero => intro p a; rfl
        | succ n ih =>
          intro p a
          unfold tyN pct prt
          rw [D 61 (by omega) (by omega), D 68 (by omega) (by omega), D 69 (by omega) (by omega), D 70 (by omega) (by omega), D 71 (by omega) (by omega), D 73 (by omega) (by omega)]
          simp only [ih]
      refine ⟨⟨by rw [dv 8 (by omega) (by omega), a2' 0 (by decide), q0]; exact t7.1.1, fun v v0 v1 => ?_⟩, ?_⟩
      · rw [g2] at v1
        rw [dv 12 (by omega) (by omega), dv 15 (by omega) (by omega), dv 17 (by omega) (by omega)]
        have h12 : M0 (8 + 4) = M 12 := h0 _ (by decide)
        have h15 : M0 (8 + 7) = M 15 := h0 _ (by decide)
        have h17 : M0 (8 + 9) = M 17 := h0 _ (by decide)
        by_cases hv : v = V
        · subst hv
          rw [g5]
          refine ⟨?_, ?_, ?_⟩
          · rw [hsw, ← h12]; exact b4
          · show M1 (8 + 7) v = 0
            rw [a7, h15]
            refine orS_0 n.toNat (fun j j0 j1 => (t7.1.2 (a j) ?_ ?_).2.1)
            · exact (hpt j j0 (by omega)).1.1
            · exact (hpt j j0 (by omega)).1.2
          · show M1 (8 + 9) v = 0
            rw [a9, h17, if_neg hk5]
            refine fkS_0 n.toNat (fun j j0 j1 => (t7.1.2 (a j) ?_ ?_).2.2)
            · exact (hpt j j0 (by omega)).1.1
            · exact (hpt j j0 (by omega)).1.2
        · obtain ⟨u1, u2, u3⟩ := t7.1.2 v v0 (by omega)
          obtain ⟨k1, k2, k3, k4, k5, k7, k8, k9⟩ := a3 v hv
          rw [(old v hv).2.2]
          exact ⟨by rw [← u1, ← h12]; exact k4, by rw [← u2, ← h15]; exact k7, by rw [← u3, ← h17]; exact k9⟩
      · have t72 := t7.2
        unfold isP at *
        simp only [nb, htn]
        rw [P 18 (by omega), P 20 (by omega), P 22 (by omega), P 25 (by omega), P 26 (by omega), P 27 (by omega), D 69 (by omega) (by omega), D 72 (by omega) (by omega), D 73 (by omega) (by omega), D 74 (by omega) (by omega), e18]; exact t72
    · refine ⟨by rw [P 6 (by omega), D 63 (by omega) (by omega)]; exact t8.1, by rw [P 7 (by omega)]; exact t8.2.1, fun tt t0 t1' hp => ?_, by rw [P 2 (by omega), D 60 (by omega) (by omega)]; exact t8.2.2.2⟩
      rw [D 63 (by omega) (by omega)] at hp
      rw [e1'] at t1'
      rw [P 7 (by omega), pMk_c (m := 0) (hcn 0)]
      exact t8.2.2.1 tt t0 t1' hp
  have X : ∀ j, (j = 28 ∨ 99 < j ∨ (30 ≤ j ∧ j ≤ 37) ∨ j = 0 ∨ (45 ≤ j ∧ j ≤ 57)) → M2 j = M j := fun j hj => d1 j (by omega) (by omega) (by omega) (by omega) (by omega) (by omega) (by omega)
  refine ⟨rel_mk (M1 := M1) hr h1 (fun c hc => X c (by omega)) e25 (fun x _ _ => hcn x) hst2 hW2 (fun p _ => by rw [D 74 (by omega) (by omega)]) (D 96 (by omega) (by omega)) (D 97 (by omega) (by omega)) (D 98 (by omega) (by omega)) (fun w => ?_) (D 79 (by omega) (by omega)) (D 80 (by omega) (by omega)) hw ht (X 45 (by omega)) (X 46 (by omega)) (D 81 (by omega) (by omega)) (X 53 (by omega)) (X 54 (by omega)) (X 55 (by omega)) (d59 55 (by decide) (by decide)) (D 99 (by omega) (by omega)) ?_ hro, X 0 (by omega)⟩
  · have := hVV w
    unfold wfV at *
    simp only [hsz]
    rw [D 60 (by omega) (by omega), D 61 (by omega) (by omega), D 62 (by omega) (by omega), D 63 (by omega) (by omega), e1']; exact this
  · obtain ⟨x1, x5, x6⟩ := hx
    refine ⟨?_, fun v v0 v1 => ?_, ?_⟩
    · simp only [hsz]
      rw [D 60 (by omega) (by omega), D 63 (by omega) (by omega), e1']; exact x1
    · rw [g2] at v1
      by_cases hv : v = V
      · rw [hv, g5]; exact hs1
      · rw [(old v hv).2.2]; exact x5 v v0 (by omega)
    · unfold isP at *
      rw [e18, D 73 (by omega) (by omega), D 74 (by omega) (by omega)]; exact x6
end VAL
