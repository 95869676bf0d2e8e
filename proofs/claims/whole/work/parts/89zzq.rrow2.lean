/-! ===== the reference: row, through ===== -/
section RRX
variable {e : yE} {d : Nat} {M : xM}
theorem s_row_in {m a b c g1 g2 : Int} {A : Int → Int} {Q : Int → xM → Prop} (hs : RSh e) (hr : rOK M) (hx : rfX M) (hm : 0 ≤ m ∧ m < M 59 25) (h77 : M 77 m < 12) (hA : ∀ q, pk3 q a b c = A q) (hAr : ∀ q, rg (A q)) (hg1 : rg g1) (hg2 : rg g2) (hd : 60 ≤ d)
    (hno : ¬ rwC M m A g1 g2 → Q (-1) M) (hok : rwC M m A g1 g2 → ∀ M', rRw M M' m A g1 g2 → Q (M 77 m) M') : R_row_41 e d m a b c g1 g2 0 0 0 0 0 M Q := by
  obtain ⟨⟨gp, gt, gv, gb, ge⟩, h20, hall, hVV, h9⟩ := hr
  obtain ⟨hM, -⟩ := (hall m hm.1 hm.2).1
  have h75 := hM.2.1
  have h77' := hM.2.2.1
  have m20 : 0 ≤ m ∧ m < 20 := hM.1
  have h8 := gt.1
  have h300 := gp.1
  -- the row is written
  have put : rwC M m A g1 g2 → R_row_258 e d m a b c g1 g2 0 M Q := by
    intro hc
    have key : ∀ (j x : Nat) (L : xM), (x : Int) + j = M 75 m → (∀ q, q ≠ 78 → L q = M q) → (∀ k, 0 ≤ k → k < (x : Int) → L 78 (36 * m + 3 * M 77 m + k) = A k) → (∀ i, ¬ (36 * m + 3 * M 77 m ≤ i ∧ i < 36 * m + 3 * M 77 m + x) → L 78 i = M 78 i) → R_row_258 e d m a b c g1 g2 x L Q := by
      intro j
      induction j with
      | zero =>
        intro x L hxx b1 b2 b3
        refine t_row_258 hs ⟨m20, ?_⟩
        rw [b1 75 (by decide), b1 77 (by decide)]
        refine ⟨⟨⟨by omega, by omega⟩, ⟨by omega, by omega⟩⟩, fun _ => ⟨m20, by omega, fun M1 e1 => ?_⟩, fun z => absurd (by omega) z⟩
        have q1 : M1 77 m = M 77 m := by rw [e1, xrd (by decide), b1 77 (by decide)]
        rw [q1]
        refine ⟨m20, by omega, fun M2 e2 => ⟨m20, m20, fun M3 e3 => ⟨m20, fun M4 e4 => ⟨m20, ?_⟩⟩⟩⟩
        have q2 : M2 77 m = M 77 m := by rw [e2, xrd (by decide), q1]
        have q4 : M4 77 m = M 77 m + 1 := by rw [e4, xrd (by decide), e3, xrs, q2]
        rw [q4, show M 77 m + 1 - 1 = M 77 m by omega]
        refine hok hc M4 ⟨fun cc y1 y2 y3 y4 y5 y6 => ?_, fun i hi => ?_, ⟨q4, fun i hi => ?_⟩, fun k k0 k1 => ?_, fun i hi => ?_, ⟨?_, fun i hi => ?_⟩, ⟨?_, fun i hi => ?_⟩, ?_, fun i hi => ?_⟩
        · rw [e4, xrd y6, e3, xrd y2, e2, xrd y5, e1, xrd y4, b1 cc y3]
        · rw [e4, xrd (by decide), e3, xrd (by decide), e2, xrd (by decide), e1, xrd (by decide), b1 59 (by decide)]
        · rw [e4, xrd (by decide), e3, xri hi, e2, xrd (by decide), e1, xrd (by decide), b1 77 (by decide)]
        · rw [e4, xrd (by decide), e3, xrd (by decide), e2, xrd (by decide), e1, xrd (by decide)]; exact b2 k k0 (by omega)
        · rw [e4, xrd (by decide), e3, xrd (by decide), e2, xrd (by decide), e1, xrd (by decide)]; exact b3 i (by omega)
        · rw [e4, xrd (by decide), e3, xrd (by decide), e2, xrd (by decide), e1, xrs]
        · rw [e4, xrd (by decide), e3, xrd (by decide), e2, xrd (by decide), e1, xri hi, b1 79 (by decide)]
        · rw [e4, xrd (by decide), e3, xrd (by decide), e2, xrs]
        · rw [e4, xrd (by decide), e3, xrd (by decide), e2, xri hi, e1, xrd (by decide), b1 80 (by decide)]
        · rw [e4, xrs]
        · rw [e4, xri hi, e3, xrd (by decide), e2, xrd (by decide), e1, xrd (by decide), b1 96 (by decide)]
      | succ j ih =>
        intro x L hxx b1 b2 b3
        refine t_row_258 hs ⟨m20, ?_⟩
        rw [b1 75 (by decide), b1 77 (by decide)]
        obtain ⟨d, rfl⟩ : ∃ d', d = d' + 1 := ⟨d - 1, by omega⟩
        refine ⟨⟨⟨by omega, by omega⟩, ⟨by omega, by omega⟩⟩, fun z => absurd z (by omega), fun _ => ⟨m20, s_pick ⟨by omega, by omega⟩ ⟨by omega, fun L2 e2 => ?_⟩⟩⟩
        rw [hA] at e2
        refine ih (x + 1) L2 (by omega) (fun q hq => by rw [e2, xrd hq, b1 q hq]) (fun k k0 k1 => ?_) (fun i hi => ?_)
        · rw [e2]
          by_cases z : k = x
          · rw [z, xrs]
          · rw [xri (by omega)]; exact b2 k k0 (by omega)
        · rw [e2, xri (by omega)]; exact b3 i (by omega)
    exact key (M 75 m).toNat 0 M (by omega) (fun _ _ => rfl) (fun k k0 k1 => by omega) (fun i _ => rfl)
  -- one pattern after the other
  have key : ∀ (j x : Nat) (x9 x10 : Int), (x : Int) + j = M 75 m → (∀ i, 0 ≤ i → i < (x : Int) → isP M (A i) ∧ M 69 (A i) = M 76 (3 * m + i)) → (∀ i : Nat, i < x → xand32 (orS (M 73) A 0 i) (M 73 (A i)) = 0) → (x9 = 0 ∨ x9 = 1) → (¬ x9 = 0 ↔ gN M A x g1) → (x10 = 0 ∨ x10 = 1) → (¬ x10 = 0 ↔ gN M A x g2) → R_row_41 e d m a b c g1 g2 (orS (M 73) A 0 x) (fkS (M 74) A 0 x) x9 x10 x M Q := by
    intro j
    induction j with
    | zero =>
      intro x x9 x10 hxx g ga o9 i9 o10 i10
      have hxn : M 75 m = x := by omega
      have g' : ∀ i, 0 ≤ i → i < M 75 m → isP M (A i) ∧ M 69 (A i) = M 76 (3 * m + i) := fun i i0 i1 => g i i0 (by omega)
      have gap : apS (M 73) A (M 75 m) := fun i hi => ga i (by omega)
      have h01 := fkS_01 (f := M 74) (a := A) (x := 0) (Or.inl rfl) x
      refine t_row_41 hs ⟨m20, ⟨⟨by omega, by omega⟩, ⟨by omega, by omega⟩⟩, fun _ => ⟨hg1, fun z => put ⟨h77, g', gap, Or.inl z⟩, fun z => ⟨by rcases h01 with o | o <;> (rw [o]; exact ⟨by omega, by omega⟩), fun y => hno (fun u => ?_), fun y => ⟨by rcases o9 with o | o <;> (rw [o]; exact ⟨by omega, by omega⟩), fun w => hno (fun u => ?_), fun w => ⟨by rcases o10 with o | o <;> (rw [o]; exact ⟨by omega, by omega⟩), fun v => put ⟨h77, g', gap, Or.inr ⟨fun k k0 k1 => ?_, ?_, ?_⟩⟩, fun v => hno (fun u => ?_)⟩⟩⟩⟩, fun z => absurd (by omega) z⟩
      · rcases u.2.2.2 with o | ⟨o, -, -⟩
        · exact z o
        · exact y (fkS_0 x (fun i i0 i1 => o i i0 (by omega)))
      · rcases u.2.2.2 with o | ⟨-, o, -⟩
        · exact z o
        · rw [hxn] at o; exact (i9.mpr o) w
      · exact (fkS_i x (Classical.not_not.mp y)).2 k k0 (by omega)
      · rw [hxn]; exact i9.mp w
      · rw [hxn]; exact i10.mp v
      · rcases u.2.2.2 with o | ⟨-, -, o⟩
        · exact z o
        · rw [hxn] at o; exact v (i10.mpr o)
    | succ j ih =>
      intro x x9 x10 hxx g ga o9 i9 o10 i10
      obtain ⟨d, rfl⟩ : ∃ d', d = d' + 1 := ⟨d - 1, by omega⟩
      refine t_row_41 hs ⟨m20, ⟨⟨by omega, by omega⟩, ⟨by omega, by omega⟩⟩, fun z => absurd z (by omega), fun _ => s_pick ⟨by omega, by omega⟩ ?_⟩
      rw [hA]
      refine s_isPattern hs (hAr x) ⟨by omega, by omega⟩ ⟨bI_rg, fun z => hno (fun u => bI_0.mp z (u.2.1 x (by omega) (by omega)).1), fun z => ?_⟩
      have u2 : isP M (A x) := Classical.not_not.mp (fun u => z (bI_0.mpr u))
      have u2' := u2.2
      have p3 : 0 ≤ A x ∧ A x < 300 := ⟨u2.1, by omega⟩
      have mt := hM.2.2.2.1 x (by omega) (by omega)
      obtain ⟨a1, a2, -⟩ := gp.2 _ u2
      obtain ⟨x1, x2⟩ := hx.2.2 _ u2
      refine ⟨p3, by omega, ⟨⟨by omega, by omega⟩, ⟨by omega, by omega⟩⟩, fun y => hno (fun u => y (u.2.1 x (by omega) (by omega)).2), fun y => ⟨p3, ?_⟩⟩
      have y := Classical.not_not.mp y
      rw [xand32_comm]
      have hwW := (orS_w (f := M 73) (a := A) (x := 0) ⟨by decide, by decide⟩ x (fun q q0 q1 => (hx.2.2 _ (g q q0 q1).1).2)).1
      refine ⟨?_, fun v => ?_, fun v => hno (fun u => v (u.2.2.1 x (by omega)))⟩
      · obtain ⟨w0, w1⟩ := hwW
        obtain ⟨v0, v1⟩ := x2
        rw [xand32_nat w0 (by omega) v0 (by omega)]
        have : (orS (M 73) A 0 x).toNat &&& (M 73 (A x)).toNat ≤ (orS (M 73) A 0 x).toNat := Nat.and_le_left
        generalize (orS (M 73) A 0 x).toNat &&& (M 73 (A x)).toNat = K at this ⊢
        exact ⟨by omega, by omega⟩
      · have nx := fun x9 x10 => ih (x + 1) x9 x10 (by omega) (fun i i0 i1 => by
          by_cases zz : i = x
          · rw [zz]; exact ⟨u2, y⟩
          · exact g i i0 (by omega)) (fun i hi => by
          by_cases zz : i = x
          · rw [zz]; exact v
          · exact ga i (by omega))
        have h01 := fkS_01 (f := M 74) (a := A) (x := 0) (Or.inl rfl) x
        have cst : ((x + 1 : Nat) : Int) = (x : Int) + 1 := by omega
        -- the second name
        have t2 : ∀ s0, (s0 = 0 ∨ s0 = 1) → (¬ s0 = 0 ↔ gN M A ((x : Int) + 1) g1) → R_row_182 e (d + 1) m a b c g1 g2 (orS (M 73) A 0 (x + 1)) (fkS (M 74) A 0 (x + 1)) x10 x (A x) s0 M Q := by
          intro s0 os is
          have n1 : ∀ v, (v = 0 ∨ v = 1) → (¬ v = 0 ↔ gN M A ((x : Int) + 1) g2) → R_row_41 e (d + 1) m a b c g1 g2 (orS (M 73) A 0 (x + 1)) (fkS (M 74) A 0 (x + 1)) s0 v ((x : Int) + 1) M Q := fun v ov iv => by
            have := nx s0 v os (by rw [cst]; exact is) ov (by rw [cst]; exact iv)
            rw [cst] at this; exact this
          refine t_row_182 hs ⟨by rcases o10 with o | o <;> (rw [o]; exact ⟨by omega, by omega⟩), fun z => n1 1 (Or.inr rfl) ⟨fun _ => gN_s.mpr (Or.inl (i10.mp z)), fun _ => by decide⟩, fun z => ?_⟩
          have z0 := Classical.not_not.mp z
          have ng : ¬ gN M A x g2 := fun u => (i10.mpr u) z0
          have n0 : ¬ ((0 ≤ g2 ∧ g2 < 16) ∧ nmb M (A x) g2 ∧ tyN M 41 (A x) g2 = 0) → R_row_41 e (d + 1) m a b c g1 g2 (orS (M 73) A 0 (x + 1)) (fkS (M 74) A 0 (x + 1)) s0 0 ((x : Int) + 1) M Q := fun hn => n1 0 (Or.inl rfl) ⟨fun u => absurd rfl u, fun u => by
            rcases gN_s.mp u with o | ⟨-, o⟩
            · exact absurd o ng
            · exact absurd o hn⟩
          refine s_isName hg2 ⟨bI_rg, fun u => n0 (fun o => bI_0.mp u o.1), fun u => ?_⟩
          have r2 : 0 ≤ g2 ∧ g2 < 16 := Classical.not_not.mp (fun o => u (bI_0.mpr o))
          refine s_hasNm hs gp hx u2 r2.1 r2.2 (fun o => ⟨⟨by omega, by omega⟩, fun w => absurd w (by decide), fun _ => s_typeOf hs gp gt gb hx r2.1 r2.2 41 (d + 1) (A x) _ u2 (by omega) o (by omega) (fun rt => ⟨rt, fun w => n0 (fun q => w q.2.2), fun w => n1 1 (Or.inr rfl) ⟨fun _ => gN_s.mpr (Or.inr ⟨by omega, r2, o, Classical.not_not.mp w⟩), fun _ => by decide⟩⟩)⟩) (fun o => ⟨⟨by omega, by omega⟩, fun _ => n0 (fun q => o q.2.1), fun w => absurd rfl w⟩)
        -- the first name
        have t1 : ∀ f, f = fkS (M 74) A 0 (x + 1) → R_row_140 e (d + 1) m a b c g1 g2 (xor32 (orS (M 73) A 0 x) (M 73 (A x))) x9 x10 x (A x) f M Q := by
          intro f ef
          rw [ef]
          refine t_row_140 hs ⟨by rcases o9 with o | o <;> (rw [o]; exact ⟨by omega, by omega⟩), fun z => t2 1 (Or.inr rfl) ⟨fun _ => gN_s.mpr (Or.inl (i9.mp z)), fun _ => by decide⟩, fun z => ?_⟩
          have z0 := Classical.not_not.mp z
          have ng : ¬ gN M A x g1 := fun u => (i9.mpr u) z0
          have n0 : ¬ ((0 ≤ g1 ∧ g1 < 16) ∧ nmb M (A x) g1 ∧ tyN M 41 (A x) g1 = 0) → R_row_182 e (d + 1) m a b c g1 g2 (orS (M 73) A 0 (x + 1)) (fkS (M 74) A 0 (x + 1)) x10 x (A x) 0 M Q := fun hn => t2 0 (Or.inl rfl) ⟨fun u => absurd rfl u, fun u => by
            rcases gN_s.mp u with o | ⟨-, o⟩
            · exact absurd o ng
            · exact absurd o hn⟩
          refine s_isName hg1 ⟨bI_rg, fun u => n0 (fun o => bI_0.mp u o.1), fun u => ?_⟩
          have r2 : 0 ≤ g1 ∧ g1 < 16 := Classical.not_not.mp (fun o => u (bI_0.mpr o))
          refine s_hasNm hs gp hx u2 r2.1 r2.2 (fun o => ⟨⟨by omega, by omega⟩, fun w => absurd w (by decide), fun _ => s_typeOf hs gp gt gb hx r2.1 r2.2 41 (d + 1) (A x) _ u2 (by omega) o (by omega) (fun rt => ⟨rt, fun w => n0 (fun q => w q.2.2), fun w => t2 1 (Or.inr rfl) ⟨fun _ => gN_s.mpr (Or.inr ⟨by omega, r2, o, Classical.not_not.mp w⟩), fun _ => by decide⟩⟩)⟩) (fun o => ⟨⟨by omega, by omega⟩, fun _ => n0 (fun q => o q.2.1), fun w => absurd rfl w⟩)
        refine ⟨p3, by rcases h01 with o | o <;> (rw [o]; exact ⟨by omega, by omega⟩), fun o => t1 1 (if_pos o).symm, fun o => ⟨p3, by rcases x1 with o | o <;> (rw [o]; exact ⟨by omega, by omega⟩), fun o2 => t1 0 ((if_neg o).trans (if_pos o2)).symm, fun o2 => t1 1 ((if_neg o).trans (if_neg o2)).symm⟩⟩
  have z9 : ¬ (0 : Int) = 0 ↔ gN M A ((0 : Nat) : Int) g1 := ⟨fun u => absurd rfl u, fun ⟨_, k, k0, k1, _⟩ => by omega⟩
  have z10 : ¬ (0 : Int) = 0 ↔ gN M A ((0 : Nat) : Int) g2 := ⟨fun u => absurd rfl u, fun ⟨_, k, k0, k1, _⟩ => by omega⟩
  exact key (M 75 m).toNat 0 0 0 (by omega) (fun i i0 i1 => by omega) (fun i hi => by omega) (Or.inl rfl) z9 (Or.inl rfl) z10
theorem s_row_r {m a b c g1 g2 : Int} {Q : Int → xM → Prop} (hs : RSh e) (hr : rOK M) (hx : rfX M) (hm : rg m) (habc : rg a ∧ rg b ∧ rg c) (hg1 : rg g1) (hg2 : rg g2) (hd : 61 ≤ d)
    (hno : ¬ ((0 ≤ m ∧ m < M 59 25) ∧ rwC M m (fun q => pk3 q a b c) g1 g2) → Q (-1) (xup M 59 0 0)) (hok : (0 ≤ m ∧ m < M 59 25) → rwC M m (fun q => pk3 q a b c) g1 g2 → ∀ M', rRw M M' m (fun q => pk3 q a b c) g1 g2 → Q (M 77 m) M') : R_row e d m a b c g1 g2 M Q := by
  obtain ⟨d, rfl⟩ : ∃ d', d = d' + 2 := ⟨d - 2, by omega⟩
  refine t_row (t_row_0 hs (fun M1 e1 => ?_))
  have f : ∀ q, q ≠ 59 → M1 q = M q := fun q hq => by rw [e1, xrd hq]
  have f59 : ∀ i, i ≠ 0 → M1 59 i = M 59 i := fun i hi => by rw [e1, xri hi]
  have kk : rKp M M1 := ⟨fun cc c0 c1 => f cc (by omega), f59 1 (by decide), f59 10 (by decide), f59 18 (by decide), f59 25 (by decide)⟩
  have hr1 : rOK M1 := rOK_s hr kk (f 96 (by decide)) (f 97 (by decide)) (f 98 (by decide))
  have hx1 := rfX_k kk hx
  have h20 := hr.2.1
  have hpr : ∀ q, rg (pk3 q a b c) := fun q => by unfold pk3; split; exact habc.1; split; exact habc.2.1; exact habc.2.2
  have eC : rwC M1 m (fun q => pk3 q a b c) g1 g2 ↔ rwC M m (fun q => pk3 q a b c) g1 g2 := by
    have nb : ∀ p x, nmb M1 p x ↔ nmb M p x := fun p x => by unfold nmb; rw [f 73 (by decide)]
    unfold rwC gN isP
    simp only [nb, tyN_k kk]
    rw [f 77 (by decide), f 75 (by decide), f 69 (by decide), f 76 (by decide), f 73 (by decide), f 74 (by decide), f59 18 (by decide)]
  rw [← e1] at hno
  refine s_isMatch hs hm (by rw [f59 25 (by decide)]; exact ⟨by omega, by omega⟩) ?_
  rw [f59 25 (by decide)]
  refine ⟨bI_rg, fun z => hno (fun u => bI_0.mp z u.1), fun z => ?_⟩
  have u1 : 0 ≤ m ∧ m < M 59 25 := Classical.not_not.mp (fun u => z (bI_0.mpr u))
  have hM := (hr.2.2.1 m u1.1 u1.2).1.1
  have h77 := hM.2.2.1
  refine ⟨hM.1, ?_⟩
  rw [f 77 (by decide)]
  refine ⟨⟨by omega, by omega⟩, fun y => s_row_in (A := fun q => pk3 q a b c) hs hr1 hx1 (by rw [f59 25 (by decide)]; exact u1) (by rw [f 77 (by decide)]; omega) (fun _ => rfl) hpr hg1 hg2 (by omega) (fun w => hno (fun u => w (eC.mpr u.2))) (fun w M' hR => ?_), fun y => hno (fun u => by have := u.2.1; omega)⟩
  rw [f 77 (by decide)]
  refine hok u1 (eC.mp w) M' ?_
  unfold rRw at *
  rw [f 77 (by decide), f 78 (by decide), f 79 (by decide), f 80 (by decide), f 75 (by decide), f 96 (by decide)] at hR
  obtain ⟨r1, r2, r3⟩ := hR
  exact ⟨fun cc y1 y2 y3 y4 y5 y6 => by rw [r1 cc y1 y2 y3 y4 y5 y6, f cc y1], fun i hi => by rw [r2 i hi, f59 i hi], r3⟩
end RRX
