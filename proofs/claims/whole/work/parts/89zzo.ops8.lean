/-! ===== both sides answer alike: made ===== -/
section OPZ
variable {e : yE} {d : Nat} {M M0 : xM} {cs cl : Nat}
theorem apS_c {f g a b : Int → Int} {n : Int} (h : ∀ j, 0 ≤ j → j < n → f (a j) = g (b j)) : apS f a n ↔ apS g b n := by
  have key : ∀ j : Nat, (j : Int) ≤ n → orS f a 0 j = orS g b 0 j := by
    intro j
    induction j with
    | zero => intro _; rfl
    | succ j ih =>
      intro hj
      show xor32 (orS f a 0 j) (f (a j)) = xor32 (orS g b 0 j) (g (b j))
      rw [ih (by omega), h j (by omega) (by omega)]
  unfold apS
  constructor
  · intro u j hj; rw [← key j (by omega), ← h j (by omega) hj]; exact u j hj
  · intro u j hj; rw [key j (by omega), h j (by omega) hj]; exact u j hj
/-- no name twice -/
theorem apS_n {f a : Int → Int} {n : Int} (hw : ∀ j, 0 ≤ j → j < n → nmW (f (a j))) (h : apS f a n) {x i j : Int} (x0 : 0 ≤ x) (x1 : x < 16) (i0 : 0 ≤ i) (ij : i < j) (j1 : j < n) : ¬ (xand32 (xshr32 (f (a i)) x) 1 = 1 ∧ xand32 (xshr32 (f (a j)) x) 1 = 1) := by
  obtain ⟨J, rfl⟩ : ∃ J : Nat, j = J := ⟨j.toNat, by omega⟩
  obtain ⟨w1, w2⟩ := orS_w (f := f) (a := a) (x := 0) ⟨by decide, by decide⟩ J (fun q q0 q1 => hw q q0 (by omega))
  have := (and_0 w1 (hw J (by omega) j1)).mp (h J j1) x x0 x1
  intro u
  exact this ⟨(w2 x x0 x1).mpr (Or.inr ⟨i, i0, ij, u.1⟩), u.2⟩
theorem s_made_r {t h a b c : Int} {Q : Int → xM → Prop} (hs : RSh e) (hwt : wfT M) (hwp : wfP M) (hx : rfX M) (ht : rg t) (hh : rg h) (habc : rg a ∧ rg b ∧ rg c)
    (hno : ¬ ((0 ≤ t ∧ t < M 59 1 ∧ 0 ≤ h ∧ h < M 60 t) ∧ M 59 18 < 300 ∧ (∀ j, 0 ≤ j → j < M 61 (6 * t + h) → isP M (pk3 j a b c) ∧ M 69 (pk3 j a b c) = M 62 (3 * (6 * t + h) + j)) ∧ apS (M 73) (fun q => pk3 q a b c) (M 61 (6 * t + h)) ∧ smW (M 72) (fun q => pk3 q a b c) (M 61 (6 * t + h)).toNat ≤ 40) → Q (-1) (xup M 59 0 0))
    (hok : (0 ≤ t ∧ t < M 59 1 ∧ 0 ≤ h ∧ h < M 60 t) → M 59 18 < 300 → (∀ j, 0 ≤ j → j < M 61 (6 * t + h) → isP M (pk3 j a b c) ∧ M 69 (pk3 j a b c) = M 62 (3 * (6 * t + h) + j)) → apS (M 73) (fun q => pk3 q a b c) (M 61 (6 * t + h)) → smW (M 72) (fun q => pk3 q a b c) (M 61 (6 * t + h)).toNat ≤ 40 → ∀ M', pGr M M' 2 t h (smW (M 72) (fun q => pk3 q a b c) (M 61 (6 * t + h)).toNat) (orS (M 73) (fun q => pk3 q a b c) 0 (M 61 (6 * t + h)).toNat) (fkS (M 74) (fun q => pk3 q a b c) 0 (M 61 (6 * t + h)).toNat) (M 61 (6 * t + h)) (fun q => pk3 q a b c) → (∀ c, (c < 59 ∨ 99 < c) → M' c = M c) → Q (M 59 18) M') : R_made e (d + 3) t h a b c M Q := by
  have h8 := hwt.1
  have h18 := hwp.1
  refine t_made (t_made_0 hs (fun M1 e1 => ?_))
  have f1 : ∀ j, j ≠ 59 → M1 j = M j := fun j hj => by rw [e1, xrd hj]
  have f59 : ∀ i, i ≠ 0 → M1 59 i = M 59 i := fun i hi => by rw [e1, xri hi]
  have q1 := f59 1 (by decide)
  have q18 := f59 18 (by decide)
  have q60 := f1 60 (by decide)
  have q61 := f1 61 (by decide)
  rw [← e1] at hno
  refine s_isMaker hs ht hh (by rw [q1]; omega) (fun t t0 t1 => ?_) ?_
  · rw [q60]; rw [q1] at t1
    have := hwt.2.1 t t0 (by omega); exact ⟨by omega, by omega⟩
  rw [q1, q60]
  refine ⟨bI_rg, fun z => hno (fun w => bI_0.mp z w.1), fun z => ?_⟩
  have hm : 0 ≤ t ∧ t < M 59 1 ∧ 0 ≤ h ∧ h < M 60 t := Classical.not_not.mp (fun u => z (bI_0.mpr u))
  have h6 := hwt.2.1 t hm.1 (by omega)
  obtain ⟨n3, np⟩ := hwt.2.2.2 t h hm.1 hm.2.1 hm.2.2.1 hm.2.2.2
  rw [q18]
  refine ⟨⟨by omega, by omega⟩, fun w => ?_, fun w => hno (fun u => by omega)⟩
  have hpr : ∀ q, rg (pk3 q a b c) := fun q => by unfold pk3; split; exact habc.1; split; exact habc.2.1; exact habc.2.2
  obtain ⟨A, eA⟩ : ∃ A : Int → Int, A = fun q => pk3 q a b c := ⟨_, rfl⟩
  have eA' : ∀ q, pk3 q a b c = A q := fun q => by rw [eA]
  rw [← eA] at hno hok
  simp only [eA'] at hno hok hpr
  -- the parts are written
  have put : ∀ (W B E : Int), (E = 0 ∨ E = 1) → (∀ L M', (∀ q, q ≠ 71 → L q = M1 q) → (∀ i, 0 ≤ i → i < M 61 (6 * t + h) → L 71 (3 * M 59 18 + i) = A i) → (∀ i, i < 3 * M 59 18 → L 71 i = M 71 i) → rpP L M' 2 t h W B E → Q (M 59 18) M') → R_made_167 e (d + 2) t h a b c W B E 0 M1 Q := by
    intro W B E hE hk
    have loop : ∀ (jj y : Nat) (L : xM), (y : Int) + jj = M 61 (6 * t + h) → (∀ q, q ≠ 71 → L q = M1 q) → (∀ i, 0 ≤ i → i < (y : Int) → L 71 (3 * M 59 18 + i) = A i) → (∀ i, i < 3 * M 59 18 → L 71 i = M 71 i) → R_made_167 e (d + 2) t h a b c W B E y L Q := by
      intro jj
      induction jj with
      | zero =>
        intro y L hy b1 b2 b3
        refine t_made_167 hs (s_countOf hs (by omega) ?_)
        rw [b1 61 (by decide), q61]
        refine ⟨⟨⟨by omega, by omega⟩, ⟨by omega, by omega⟩⟩, fun _ => s_addPat hs (by rw [b1 59 (by decide), q18]; omega) hE (fun M' hp => ?_), fun z => absurd (by omega) z⟩
        rw [b1 59 (by decide), q18]
        exact hk L M' b1 (fun i i0 i1 => b2 i i0 (by omega)) b3 hp
      | succ jj ih =>
        intro y L hy b1 b2 b3
        refine t_made_167 hs (s_countOf hs (by omega) ?_)
        rw [b1 61 (by decide), q61, b1 59 (by decide), q18]
        refine ⟨⟨⟨by omega, by omega⟩, ⟨by omega, by omega⟩⟩, fun z => absurd z (by omega), fun _ => s_pick ⟨by omega, by omega⟩ ⟨by omega, fun L2 e2 => ?_⟩⟩
        rw [eA'] at e2
        refine ih (y + 1) L2 (by omega) (fun q hq => by rw [e2, xrd hq, b1 q hq]) (fun i i0 i1 => ?_) (fun i hi => by rw [e2, xri (by omega)]; exact b3 i hi)
        rw [e2]
        by_cases z : i = y
        · rw [z, xrs]
        · rw [xri (by omega)]; exact b2 i i0 (by omega)
    exact loop (M 61 (6 * t + h)).toNat 0 M1 (by omega) (fun _ _ => rfl) (fun i i0 i1 => by omega) (fun i _ => by rw [f1 71 (by decide)])
  have key : ∀ (j x : Nat), (x : Int) + j = M 61 (6 * t + h) → (∀ i, 0 ≤ i → i < (x : Int) → isP M (A i) ∧ M 69 (A i) = M 62 (3 * (6 * t + h) + i)) → (∀ i : Nat, i < x → xand32 (orS (M 73) A 0 i) (M 73 (A i)) = 0) → (1 ≤ smW (M 72) A x ∧ smW (M 72) A x ≤ 1 + 40 * x) → R_made_38 e (d + 2) t h a b c (smW (M 72) A x) (orS (M 73) A 0 x) (fkS (M 74) A 0 x) x M1 Q := by
    intro j
    induction j with
    | zero =>
      intro x hx' g ga hb
      have hxn : (M 61 (6 * t + h)).toNat = x := by omega
      have g' : ∀ i, 0 ≤ i → i < M 61 (6 * t + h) → isP M (A i) ∧ M 69 (A i) = M 62 (3 * (6 * t + h) + i) := fun i i0 i1 => g i i0 (by omega)
      have gap : apS (M 73) A (M 61 (6 * t + h)) := fun i hi => ga i (by omega)
      refine t_made_38 hs (s_countOf hs (by omega) ?_)
      rw [q61]
      refine ⟨⟨⟨by omega, by omega⟩, ⟨by omega, by omega⟩⟩, fun _ => ⟨⟨by omega, by omega⟩, fun y => ?_, fun y => hno (fun u => y (by rw [← hxn]; exact u.2.2.2.2))⟩, fun z => absurd (by omega) z⟩
      have hk := hok hm (by omega) g' gap (by rw [hxn]; exact y)
      rw [hxn] at hk
      refine put _ _ _ (fkS_01 (Or.inl rfl) x) (fun L M' l1 l2 l3 hp => ?_)
      obtain ⟨hg, hcl⟩ := pGr_of (M := M) (n := M 61 (6 * t + h)) (a := A) (fun cc y1 y2 => by rw [l1 cc y2, f1 cc y1]) (fun i hi => by rw [l1 59 (by decide), f59 i hi]) l2 l3 hp
      exact hk M' hg hcl
    | succ j ih =>
      intro x hx' g ga hb
      refine t_made_38 hs (s_countOf hs (by omega) ?_)
      rw [q61]
      refine ⟨⟨⟨by omega, by omega⟩, ⟨by omega, by omega⟩⟩, fun z => absurd z (by omega), fun _ => s_pick ⟨by omega, by omega⟩ ?_⟩
      rw [eA']
      refine s_isPattern hs (hpr x) (by rw [q18]; exact ⟨by omega, by omega⟩) ?_
      rw [q18]
      refine ⟨bI_rg, fun z => hno (fun u => bI_0.mp z (u.2.2.1 x (by omega) (by omega)).1), fun z => ?_⟩
      have u2 : isP M (A x) := Classical.not_not.mp (fun u => z (bI_0.mpr u))
      have u2' := u2.2
      have p3 : 0 ≤ A x ∧ A x < 300 := ⟨u2.1, by omega⟩
      have npx := np x (by omega) (by omega)
      have a1 := (hwp.2 _ u2).1
      have a2 := (hwp.2 _ u2).2.1
      obtain ⟨x1, x2⟩ := hx.2.2 _ u2
      refine ⟨p3, s_partType hs (by omega) ?_⟩
      rw [f1 69 (by decide), f1 62 (by decide), f1 72 (by decide), f1 73 (by decide), f1 74 (by decide)]
      refine ⟨⟨⟨by omega, by omega⟩, ⟨by omega, by omega⟩⟩, fun y => hno (fun u => y (u.2.2.1 x (by omega) (by omega)).2), fun y => ⟨p3, ?_⟩⟩
      have y := Classical.not_not.mp y
      rw [xand32_comm]
      have hwW := (orS_w (f := M 73) (a := A) (x := 0) ⟨by decide, by decide⟩ x (fun q q0 q1 => (hx.2.2 _ (g q q0 q1).1).2)).1
      have next := ih (x + 1) (by omega) (fun i i0 i1 => by
        by_cases zz : i = x
        · rw [zz]; exact ⟨u2, y⟩
        · exact g i i0 (by omega))
      have nb : 1 ≤ smW (M 72) A (x + 1) ∧ smW (M 72) A (x + 1) ≤ 1 + 40 * ((x + 1 : Nat) : Int) := by
        show 1 ≤ smW (M 72) A x + M 72 (A x) ∧ smW (M 72) A x + M 72 (A x) ≤ 1 + 40 * ((x + 1 : Nat) : Int)
        omega
      refine ⟨?_, fun v => ?_, fun v => hno (fun u => v (u.2.2.2.1 x (by omega)))⟩
      · obtain ⟨w0, w1⟩ := hwW
        obtain ⟨v0, v1⟩ := x2
        rw [xand32_nat w0 (by omega) v0 (by omega)]
        have : (orS (M 73) A 0 x).toNat &&& (M 73 (A x)).toNat ≤ (orS (M 73) A 0 x).toNat := Nat.and_le_left
        generalize (orS (M 73) A 0 x).toNat &&& (M 73 (A x)).toNat = K at this ⊢
        exact ⟨by omega, by omega⟩
      · have nx := next (fun i hi => by
          by_cases zz : i = x
          · rw [zz]; exact v
          · exact ga i (by omega)) nb
        have h01 := fkS_01 (f := M 74) (a := A) (x := 0) (Or.inl rfl) x
        refine ⟨p3, p3, by rcases h01 with o | o <;> (rw [o]; exact ⟨by omega, by omega⟩), fun o => ?_, fun o => ⟨p3, by rcases x1 with o | o <;> (rw [o]; exact ⟨by omega, by omega⟩), fun o2 => ?_, fun o2 => ?_⟩⟩
        · have : fkS (M 74) A 0 (x + 1) = 1 := if_pos o
          rw [this] at nx; exact nx
        · have : fkS (M 74) A 0 (x + 1) = 0 := (if_neg o).trans (if_pos o2)
          rw [this] at nx; exact nx
        · have : fkS (M 74) A 0 (x + 1) = 1 := (if_neg o).trans (if_neg o2)
          rw [this] at nx; exact nx
  exact key (M 61 (6 * t + h)).toNat 0 (by omega) (fun i i0 i1 => by omega) (fun i hi => by omega) ⟨by show (1 : Int) ≤ 1; decide, by show (1 : Int) ≤ 1 + 40 * ((0 : Nat) : Int); decide⟩
theorem op_made {t h a b c : Int} (hR : Rel e M) (hd : 1200 ≤ d) (ht : rg t) (hh : rg h) (habc : rg a ∧ rg b ∧ rg c) : C_Mf_made e d t h a b c M (fun y M1 => R_made e d t h a b c M1 (fun y2 M2 => y = y2 ∧ rg y ∧ Rel e M2 ∧ M2 0 = M 0)) := by
  have hR' := hR
  obtain ⟨cs, cl, h1, hr, hw, htl, hxx, hro⟩ := hR'
  obtain ⟨d, rfl⟩ : ∃ d', d = d' + 9 := ⟨d - 9, by omega⟩
  have s1 := h1.1
  have s2 := h1.2.1
  have s4 := h1.2.2.2.1
  have gp := hr.1.1
  have gt := hr.1.2.1
  have hP := gp.1
  have h8 := gt.1
  obtain ⟨e180, e181, tP⟩ := s4.2.2.2.2.2.2.1.2
  have hpr : ∀ q, rg (pk3 q a b c) := fun q => by unfold pk3; split; exact habc.1; split; exact habc.2.1; exact habc.2.2
  refine c_Mf_made (c_Mf_made_0 s1 (s_giveC (d := d + 7) s1 (fun M1 g1 g58 => ?_)))
  have q18 : M1 18 = M 18 := g1 18 (by decide)
  have q20 : M1 (18 + 2) = M 20 := g1 (18 + 2) (by decide)
  have q25 : M1 (18 + 7) = M 25 := g1 (18 + 7) (by decide)
  have hY1 : tCl M1 M := tCl_cg (g1 2 (by decide)) (g1 3 (by decide)) (g1 4 (by decide)) (g1 5 (by decide)) s4.2.2.1
  have hpart : (0 ≤ t ∧ t < M 59 1 ∧ 0 ≤ h ∧ h < M 60 t) → 0 ≤ M 61 (6 * t + h) ∧ M 61 (6 * t + h) ≤ 3 := fun hm => (gt.2.2.2 t h hm.1 hm.2.1 hm.2.2.1 hm.2.2.2).1
  -- the names of the parts
  have hap : (0 ≤ t ∧ t < M 59 1 ∧ 0 ≤ h ∧ h < M 60 t) → (∀ j, 0 ≤ j → j < M 61 (6 * t + h) → isP M (pk3 j a b c)) → (apS (M1 (18 + 7)) (M1 58) (M 61 (6 * t + h)) ↔ apS (M 73) (fun q => pk3 q a b c) (M 61 (6 * t + h))) := by
    intro hm hpp
    have := hpart hm
    refine apS_c (fun j j0 j1 => ?_)
    rw [q25, g58 j j0 (by omega)]
    exact (tP _ (hpp j j0 j1)).2.2.1
  -- nothing comes of it
  have hno : ¬ ((0 ≤ t ∧ t < M 59 1 ∧ 0 ≤ h ∧ h < M 60 t) ∧ M 59 18 < 300 ∧ (∀ j, 0 ≤ j → j < M 61 (6 * t + h) → isP M (pk3 j a b c) ∧ M 69 (pk3 j a b c) = M 62 (3 * (6 * t + h) + j)) ∧ apS (M 73) (fun q => pk3 q a b c) (M 61 (6 * t + h)) ∧ smW (M 72) (fun q => pk3 q a b c) (M 61 (6 * t + h)).toNat ≤ 40) → R_made e (d + 9) t h a b c M1 (fun y2 M2 => -1 = y2 ∧ rg (-1) ∧ Rel e M2 ∧ M2 0 = M 0) := by
    intro hz
    obtain ⟨n1, n2⟩ := rel_58 hR g1
    have kk : rKp M M1 := ⟨fun cc c0 c1 => g1 cc (by omega), by rw [g1 59 (by decide)], by rw [g1 59 (by decide)], by rw [g1 59 (by decide)], by rw [g1 59 (by decide)]⟩
    have r3 := rOK_s hr kk (g1 96 (by decide)) (g1 97 (by decide)) (g1 98 (by decide))
    refine s_made_r (d := d + 6) s2 r3.1.2.1 r3.1.1 (rfX_k kk hxx) ht hh habc (fun _ => ⟨rfl, ⟨by omega, by omega⟩, n1, n2⟩) (fun y1 y2 y3 y4 y5 => ?_)
    exfalso
    unfold isP at y3
    rw [g1 59 (by decide), g1 60 (by decide)] at y1
    rw [g1 59 (by decide)] at y2
    rw [g1 61 (by decide), g1 59 (by decide), g1 69 (by decide), g1 62 (by decide)] at y3
    rw [g1 73 (by decide), g1 61 (by decide)] at y4
    rw [g1 72 (by decide), g1 61 (by decide)] at y5
    exact hz ⟨y1, y2, y3, y4, y5⟩
  refine s_addMadeC (D := M) (d := d + 4) s1 (c5_18 s1) gt hY1 ht hh (by rw [q18, e181]; exact hP) (fun j j0 j1 => by rw [g58 j j0 j1]; exact hpr j) (fun i i0 i1 => ?_) (fun z => hno (fun w => z ⟨w.1, fun j j0 j1 => ?_, ?_⟩)) (fun z1 z2 z3 => ?_)
  · rw [q18, e181] at i1
    rw [q20, (tP i ⟨i0, i1⟩).1]
    have := (gp.2 i ⟨i0, i1⟩).1; exact ⟨by omega, by omega⟩
  · have := hpart w.1
    obtain ⟨u1, u2⟩ := w.2.2.1 j j0 j1
    rw [g58 j j0 (by omega), q18, e181, q20, (tP _ u1).1]
    exact ⟨u1, u2⟩
  · exact (hap w.1 (fun j j0 j1 => (w.2.2.1 j j0 j1).1)).mpr w.2.2.2.1
  · have hp3 := hpart z1
    have zp : ∀ j, 0 ≤ j → j < M 61 (6 * t + h) → isP M (pk3 j a b c) ∧ M 69 (pk3 j a b c) = M 62 (3 * (6 * t + h) + j) := fun j j0 j1 => by
      obtain ⟨u1, u2⟩ := z2 j j0 j1
      rw [g58 j j0 (by omega)] at u1 u2
      rw [q18, e181] at u1
      have u1 : isP M (pk3 j a b c) := u1
      rw [q20, (tP _ u1).1] at u2
      exact ⟨u1, u2⟩
    have za := (hap z1 (fun j j0 j1 => (zp j j0 j1).1)).mp z3
    refine s_addP (d := d + 5) (a := fun q => pk3 q a b c) hr h1 hxx g1 hp3 (fun j j0 j1 => g58 j j0 (by omega)) (fun j j0 j1 => (zp j j0 j1).1) ⟨by omega, by omega⟩ ht (fun z => hno (fun w => ?_)) (fun y1 y2 M2 had => ?_)
    · rcases z with z | z
      · omega
      · have := w.2.2.2.2; omega
    · rw [if_neg (by decide)] at had
      have g2 : ∀ j, ¬ (18 ≤ j ∧ j ≤ 27) → j ≠ 58 → M2 j = M j := fun j y1 y2 => by rw [had.1 j (by omega), g1 j y2]
      have e59 : M2 59 = M 59 := g2 59 (by omega) (by decide)
      have kk : rKp M M2 := ⟨fun cc c0 c1 => g2 cc (by omega) (by omega), by rw [e59], by rw [e59], by rw [e59], by rw [e59]⟩
      have r3 := rOK_s hr kk (g2 96 (by omega) (by decide)) (g2 97 (by omega) (by decide)) (g2 98 (by omega) (by decide))
      refine s_made_r (d := d + 6) s2 r3.1.2.1 r3.1.1 (rfX_k kk hxx) ht hh habc (fun z => ?_) (fun x1 x2 x3 x4 x5 M3 hg hcl => ?_)
      · exfalso
        unfold isP at z
        rw [e59, g2 60 (by omega) (by decide), g2 61 (by omega) (by decide), g2 62 (by omega) (by decide), g2 69 (by omega) (by decide), g2 72 (by omega) (by decide), g2 73 (by omega) (by decide)] at z
        exact z ⟨z1, y1, zp, za, y2⟩
      · rw [g2 61 (by omega) (by decide), g2 72 (by omega) (by decide), g2 73 (by omega) (by decide), g2 74 (by omega) (by decide)] at hg
        rw [e59]
        have tz : 0 < t := by
          have : t ≠ 0 := fun u => by have := gt.2.2.1; rw [u] at z1; omega
          omega
        have := rel_pat (kd := 2) (t := t) (h := h) (n := M 61 (6 * t + h)) (kind := 4) (own := 0) (a := fun q => pk3 q a b c) hr h1 hw htl hxx hro y1 g1 had hg hcl ⟨z1.1, z1.2.1⟩ hh (Or.inr (Or.inr (Or.inl ⟨rfl, z1.2.2, tz, rfl, rfl, rfl, fun j j0 j1 => (zp j j0 j1).2, fun x i j x0 x1 i0 ij j1 => apS_n (f := M 73) (a := fun q => pk3 q a b c) (fun j j0 j1 => (hxx.2.2 _ (zp j j0 j1).1).2) za x0 x1 i0 ij j1⟩))) (fun j j0 j1 => (zp j j0 j1).1) rfl y2 rfl (by rw [if_neg (by decide)])
        exact ⟨rfl, ⟨by omega, by omega⟩, this⟩
end OPZ
