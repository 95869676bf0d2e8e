/-! ===== the class: addMade; the reference: make ===== -/
section CMD
variable {e : yE} {d k : Nat} {M : xM}
/-- names that have nothing in common -/
def apS (f a : Int → Int) (n : Int) : Prop := ∀ j : Nat, (j : Int) < n → xand32 (orS f a 0 j) (f (a j)) = 0
theorem s_apartC {n : Int} {Q : Int → xM → Prop} (hs : CSh e) (hk : XSh5 k e) (hn : 0 ≤ n ∧ n ≤ 3) (ha : ∀ j, 0 ≤ j → j < n → 0 ≤ M 58 j ∧ M 58 j < 300) (h1 : apS (M (k + 7)) (M 58) n → Q 1 M) (h0 : ¬ apS (M (k + 7)) (M 58) n → Q 0 M) : C_Tm_haveNamesApart e (d + 1) k 58 3 n M Q := by
  have hyA := caa_58 hs
  have key : ∀ (j x : Nat), (x : Int) + j = n → (∀ i : Nat, i < x → xand32 (orS (M (k + 7)) (M 58) 0 i) (M (k + 7) (M 58 i)) = 0) → C_Tm_haveNamesApart_5 e d k 58 3 n (orS (M (k + 7)) (M 58) 0 x) x M Q := by
    intro j
    induction j with
    | zero => intro x hx g; exact c_Tm_haveNamesApart_5 hs hk hyA ⟨⟨⟨by omega, by omega⟩, ⟨by omega, by omega⟩⟩, fun _ => h1 (fun i hi => g i (by omega)), fun z => absurd (by omega) z⟩
    | succ j ih =>
      intro x hx g
      have ax := ha x (by omega) (by omega)
      refine c_Tm_haveNamesApart_5 hs hk hyA ⟨⟨⟨by omega, by omega⟩, ⟨by omega, by omega⟩⟩, fun z => absurd z (by omega), fun _ => ⟨by omega, ax, i32_rg _, fun z => ⟨by omega, ax, ih (x + 1) (by omega) (fun i hi => ?_)⟩, fun z => h0 (fun w => z (w x (by omega)))⟩⟩
      by_cases w : i = x
      · subst w; exact z
      · exact g i (by omega)
  exact c_Tm_haveNamesApart (c_Tm_haveNamesApart_0 hs hk hyA (key n.toNat 0 (by omega) (fun i hi => by omega)))
theorem s_addMadeC {D : xM} {t h : Int} {Q : Int → xM → Prop} (hs : CSh e) (hk : XSh5 k e) (hwt : wfT D) (hY : tCl M D) (ht : rg t) (hh : rg h) (hN : 0 ≤ M k 1 ∧ M k 1 ≤ 300) (h58 : ∀ j, 0 ≤ j → j < 3 → rg (M 58 j)) (hty : ∀ i, 0 ≤ i → i < M k 1 → rg (M (k + 2) i))
    (hno : ¬ ((0 ≤ t ∧ t < D 59 1 ∧ 0 ≤ h ∧ h < D 60 t) ∧ (∀ j, 0 ≤ j → j < D 61 (6 * t + h) → (0 ≤ M 58 j ∧ M 58 j < M k 1) ∧ M (k + 2) (M 58 j) = D 62 (3 * (6 * t + h) + j)) ∧ apS (M (k + 7)) (M 58) (D 61 (6 * t + h))) → Q (-1) M)
    (hgo : (0 ≤ t ∧ t < D 59 1 ∧ 0 ≤ h ∧ h < D 60 t) → (∀ j, 0 ≤ j → j < D 61 (6 * t + h) → (0 ≤ M 58 j ∧ M 58 j < M k 1) ∧ M (k + 2) (M 58 j) = D 62 (3 * (6 * t + h) + j)) → apS (M (k + 7)) (M 58) (D 61 (6 * t + h)) → C_Tm_add e (d + 3) k 4 t h 58 3 (D 61 (6 * t + h)) M Q) : C_Mf_addMade e (d + 4) k t h M Q := by
  have h8 := hwt.1
  have e0 : M 2 0 = D 59 1 := hY.1
  have e3 : ∀ t, 0 ≤ t → t < 8 → M 3 t = D 60 t := hY.2.1
  refine c_Mf_addMade (c_Mf_addMade_0 hs hk (s_isMakerC hs ht hh (by omega) (fun t t0 t1 => ?_) ⟨bI_rg, fun z => ?_, fun z => ?_⟩))
  · rw [e3 t t0 (by omega)]
    have := hwt.2.1 t t0 (by omega); exact ⟨by omega, by omega⟩
  · have hm : 0 ≤ t ∧ t < D 59 1 ∧ 0 ≤ h ∧ h < D 60 t := by
      have := Classical.not_not.mp (fun u => z (bI_0.mpr u))
      rw [e0] at this
      rw [e3 t this.1 (by omega)] at this
      exact this
    have h6 := hwt.2.1 t hm.1 (by omega)
    have t0 : t ≠ 0 := fun u => by have := hwt.2.2.1; rw [u] at hm; omega
    obtain ⟨n3, np⟩ := hwt.2.2.2 t h hm.1 hm.2.1 hm.2.2.1 hm.2.2.2
    refine s_partsOf (d := d) hs hwt hY ⟨hm.1, hm.2.1⟩ hh (fun _ => hm.2.2) ?_
    have en : nPs D t h = D 61 (6 * t + h) := by unfold nPs; rw [if_neg t0]
    rw [en]
    have key : ∀ (j x : Nat), (x : Int) + j = D 61 (6 * t + h) → (∀ i, 0 ≤ i → i < (x : Int) → (0 ≤ M 58 i ∧ M 58 i < M k 1) ∧ M (k + 2) (M 58 i) = D 62 (3 * (6 * t + h) + i)) → C_Mf_addMade_28 e (d + 3) k t h (D 61 (6 * t + h)) x M Q := by
      intro j
      induction j with
      | zero =>
        intro x hx g
        have g' : ∀ i, 0 ≤ i → i < D 61 (6 * t + h) → (0 ≤ M 58 i ∧ M 58 i < M k 1) ∧ M (k + 2) (M 58 i) = D 62 (3 * (6 * t + h) + i) := fun i i0 i1 => g i i0 (by omega)
        refine c_Mf_addMade_28 hs hk ⟨⟨⟨by omega, by omega⟩, ⟨by omega, by omega⟩⟩, fun _ => ?_, fun z => absurd (by omega) z⟩
        refine s_apartC (d := d + 2) hs hk n3 (fun i i0 i1 => by have := (g' i i0 i1).1; omega) (fun hap => ⟨⟨by omega, by omega⟩, fun _ => hgo hm g' hap, fun z => absurd (by decide) z⟩) (fun hap => ⟨⟨by omega, by omega⟩, fun z => absurd rfl z, fun _ => hno (fun w => hap w.2.2)⟩)
      | succ j ih =>
        intro x hx g
        have np' := np x (by omega) (by omega)
        refine c_Mf_addMade_28 hs hk ⟨⟨⟨by omega, by omega⟩, ⟨by omega, by omega⟩⟩, fun z => absurd z (by omega), fun _ => ⟨by omega, c_Ty_partTypeOf (c_Ty_partTypeOf_0 hs ⟨by omega, ?_⟩)⟩⟩
        rw [(hY.2.2 t h hm.1 hm.2.1 hm.2.2.1 hm.2.2.2).2 x (by omega) (by omega)]
        refine s_isOfC hs hk (h58 x (by omega) (by omega)) ⟨by omega, by omega⟩ hN hty ⟨bI_rg, fun z => ih (x + 1) (by omega) (fun i i0 i1 => ?_), fun z => hno (fun w => ?_)⟩
        · have z' := Classical.not_not.mp (fun u => z (bI_0.mpr u))
          by_cases w : i = x
          · rw [w]; exact ⟨⟨z'.1, z'.2.1⟩, z'.2.2⟩
          · exact g i i0 (by omega)
        · have z' := bI_0.mp (Classical.not_not.mp z)
          have := w.2.1 x (by omega) (by omega)
          exact z' ⟨this.1.1, this.1.2, this.2⟩
    exact key (D 61 (6 * t + h)).toNat 0 (by omega) (fun i i0 i1 => by omega)
  · have z' := bI_0.mp (Classical.not_not.mp z)
    refine hno (fun w => z' ?_)
    rw [e0, e3 t w.1.1 (by omega)]; exact w.1
end CMD
section RMD
variable {e : yE} {d : Nat} {M : xM}
theorem smW_c {f g a : Int → Int} : ∀ n : Nat, (∀ j : Int, 0 ≤ j → j < n → f (a j) = g (a j)) → smW f a n = smW g a n := by
  intro n
  induction n with
  | zero => intro _; rfl
  | succ n ih =>
    intro h
    show smW f a n + f (a n) = smW g a n + g (a n)
    rw [ih (fun j j0 j1 => h j j0 (by omega)), h n (by omega) (by omega)]
theorem s_make_r {t h a b c : Int} {Q : Int → xM → Prop} (hs : RSh e) (hwt : wfT M) (hv : wfVl M) (h67 : ∀ v, 0 ≤ v → v < M 59 10 → 1 ≤ M 67 v ∧ M 67 v ≤ 100) (ht : rg t) (hh : rg h) (habc : rg a ∧ rg b ∧ rg c)
    (hno : ¬ ((0 ≤ t ∧ t < M 59 1 ∧ 0 ≤ h ∧ h < M 60 t) ∧ M 59 10 < 300 ∧ (∀ j, 0 ≤ j → j < M 61 (6 * t + h) → (0 ≤ pk3 j a b c ∧ pk3 j a b c < M 59 10) ∧ M 64 (pk3 j a b c) = M 62 (3 * (6 * t + h) + j)) ∧ smW (M 67) (fun q => pk3 q a b c) (M 61 (6 * t + h)).toNat ≤ 100) → Q (-1) (xup M 59 0 0))
    (hok : (0 ≤ t ∧ t < M 59 1 ∧ 0 ≤ h ∧ h < M 60 t) → M 59 10 < 300 → (∀ j, 0 ≤ j → j < M 61 (6 * t + h) → (0 ≤ pk3 j a b c ∧ pk3 j a b c < M 59 10) ∧ M 64 (pk3 j a b c) = M 62 (3 * (6 * t + h) + j)) → smW (M 67) (fun q => pk3 q a b c) (M 61 (6 * t + h)).toNat ≤ 100 → ∀ M', vGr M M' t h (smW (M 67) (fun q => pk3 q a b c) (M 61 (6 * t + h)).toNat) (M 61 (6 * t + h)) (fun q => pk3 q a b c) → Q (M 59 10) M') : R_make e (d + 3) t h a b c M Q := by
  have h8 := hwt.1
  have h10 := hv.1
  refine t_make (t_make_0 hs (fun M1 e1 => ?_))
  have f1 : ∀ j, j ≠ 59 → M1 j = M j := fun j hj => by rw [e1, xrd hj]
  have f59 : ∀ i, i ≠ 0 → M1 59 i = M 59 i := fun i hi => by rw [e1, xri hi]
  have q1 := f59 1 (by decide)
  have q10 := f59 10 (by decide)
  have q60 := f1 60 (by decide)
  have q61 := f1 61 (by decide)
  rw [← e1] at hno
  refine s_isMaker hs ht hh (by rw [q1]; omega) (fun t t0 t1 => ?_) ?_
  · rw [q60]; rw [q1] at t1
    have := hwt.2.1 t t0 (by omega); exact ⟨by omega, by omega⟩
  rw [q1, q60]
  refine ⟨bI_rg, fun z => hno (fun w => bI_0.mp z w.1), fun z => ?_⟩
  have hm : 0 ≤ t ∧ t < M 59 1 ∧ 0 ≤ h ∧ h < M 60 t := Classical.not_not.mp (fun u => z (bI_0.mpr u))
  have h6 := hwt.2.1 t hm.1 (by omega)
  obtain ⟨n3, np⟩ := hwt.2.2.2 t h hm.1 hm.2.1 hm.2.2.1 hm.2.2.2
  rw [q10]
  refine ⟨⟨by omega, by omega⟩, fun w => ?_, fun w => hno (fun u => by omega)⟩
  have hpr : ∀ q, rg (pk3 q a b c) := fun q => by unfold pk3; split; exact habc.1; split; exact habc.2.1; exact habc.2.2
  have key : ∀ (j x : Nat), (x : Int) + j = M 61 (6 * t + h) → (∀ i, 0 ≤ i → i < (x : Int) → (0 ≤ pk3 i a b c ∧ pk3 i a b c < M 59 10) ∧ M 64 (pk3 i a b c) = M 62 (3 * (6 * t + h) + i)) → (1 ≤ smW (M 67) (fun q => pk3 q a b c) x ∧ smW (M 67) (fun q => pk3 q a b c) x ≤ 1 + 100 * x) → R_make_32 e (d + 2) t h a b c (smW (M 67) (fun q => pk3 q a b c) x) x M1 Q := by
    intro j
    induction j with
    | zero =>
      intro x hx g hb
      have hxn : (M 61 (6 * t + h)).toNat = x := by omega
      have g' : ∀ i, 0 ≤ i → i < M 61 (6 * t + h) → (0 ≤ pk3 i a b c ∧ pk3 i a b c < M 59 10) ∧ M 64 (pk3 i a b c) = M 62 (3 * (6 * t + h) + i) := fun i i0 i1 => g i i0 (by omega)
      refine t_make_32 hs (s_countOf hs (by omega) ?_)
      rw [q61]
      refine ⟨⟨⟨by omega, by omega⟩, ⟨by omega, by omega⟩⟩, fun _ => ⟨⟨by omega, by omega⟩, fun y => ?_, fun y => hno (fun u => y (by rw [← hxn]; exact u.2.2.2))⟩, fun z => absurd (by omega) z⟩
      refine s_addValue hs (by rw [q10]; omega) ?_
      rw [q10]
      obtain ⟨P, eP⟩ : ∃ P, P = rvPush M1 t h (smW (M 67) (fun q => pk3 q a b c) x) := ⟨_, rfl⟩
      rw [← eP]
      have hk := hok hm (by omega) g' (by rw [hxn]; exact y)
      rw [hxn] at hk
      unfold rvPush at eP
      rw [q10] at eP
      have p61 : P 61 = M 61 := by rw [eP, xrd (by decide), xrd (by decide), xrd (by decide), xrd (by decide), q61]
      have loop : ∀ (jj y : Nat) (L : xM), (y : Int) + jj = M 61 (6 * t + h) → (∀ q, q ≠ 66 → L q = P q) → (∀ i, 0 ≤ i → i < (y : Int) → L 66 (3 * M 59 10 + i) = pk3 i a b c) → (∀ i, i < 3 * M 59 10 → L 66 i = M 66 i) → R_make_114 e (d + 2) t h a b c (M 59 10) y L Q := by
        intro jj
        induction jj with
        | zero =>
          intro y L hy b1 b2 b3
          refine t_make_114 hs (s_countOf hs (by omega) ?_)
          rw [b1 61 (by decide), p61]
          refine ⟨⟨⟨by omega, by omega⟩, ⟨by omega, by omega⟩⟩, fun _ => hk L ⟨fun q y1 y2 y3 y4 y5 => ?_, ⟨?_, fun i y1 y2 => ?_⟩, ⟨?_, ?_, ?_⟩, fun i hi => ⟨?_, ?_, ?_⟩, fun i i0 i1 => b2 i i0 (by omega), b3⟩, fun z => absurd (by omega) z⟩
          · rw [b1 q y4, eP, xrd y1, xrd y5, xrd y3, xrd y2, f1 q y1]
          · rw [b1 59 (by decide), eP, xrs]
          · rw [b1 59 (by decide), eP, xri y2, xrd (by decide), xrd (by decide), xrd (by decide), f59 i y1]
          · rw [b1 64 (by decide), eP, xrd (by decide), xrd (by decide), xrd (by decide), xrs]
          · rw [b1 65 (by decide), eP, xrd (by decide), xrd (by decide), xrs]
          · rw [b1 67 (by decide), eP, xrd (by decide), xrs]
          · rw [b1 64 (by decide), eP, xrd (by decide), xrd (by decide), xrd (by decide), xri hi, f1 64 (by decide)]
          · rw [b1 65 (by decide), eP, xrd (by decide), xrd (by decide), xri hi, xrd (by decide), f1 65 (by decide)]
          · rw [b1 67 (by decide), eP, xrd (by decide), xri hi, xrd (by decide), xrd (by decide), f1 67 (by decide)]
        | succ jj ihh =>
          intro y L hy b1 b2 b3
          refine t_make_114 hs (s_countOf hs (by omega) ?_)
          rw [b1 61 (by decide), p61]
          refine ⟨⟨⟨by omega, by omega⟩, ⟨by omega, by omega⟩⟩, fun z => absurd z (by omega), fun _ => s_pick ⟨by omega, by omega⟩ ⟨by omega, fun L2 l2 => ihh (y + 1) L2 (by omega) (fun q hq => by rw [l2, xrd hq]; exact b1 q hq) (fun i i0 i1 => ?_) (fun i hi => by rw [l2, xri (by omega)]; exact b3 i hi)⟩⟩
          by_cases u : i = y
          · rw [l2, u, xrs]
          · rw [l2, xri (by omega)]; exact b2 i i0 (by omega)
      exact loop (M 61 (6 * t + h)).toNat 0 P (by omega) (fun _ _ => rfl) (fun i i0 i1 => by omega) (fun i _ => by rw [eP, xrd (by decide), xrd (by decide), xrd (by decide), xrd (by decide), f1 66 (by decide)])
    | succ j ih =>
      intro x hx g hb
      have np' := np x (by omega) (by omega)
      refine t_make_32 hs (s_countOf hs (by omega) ?_)
      rw [q61]
      refine ⟨⟨⟨by omega, by omega⟩, ⟨by omega, by omega⟩⟩, fun z => absurd z (by omega), fun _ => s_pick ⟨by omega, by omega⟩ (s_partType hs (by omega) ?_)⟩
      rw [f1 62 (by decide)]
      refine s_isValueOf hs (hpr x) ⟨by omega, by omega⟩ (by rw [q10]; exact h10) (fun i i0 i1 => ?_) ?_
      · rw [q10] at i1; rw [f1 64 (by decide)]
        have := (hv.2 i i0 i1).2.1; exact ⟨by omega, by omega⟩
      · rw [q10, f1 64 (by decide), f1 67 (by decide)]
        refine ⟨bI_rg, fun z => ?_, fun z => hno (fun u => ?_)⟩
        · have z' := Classical.not_not.mp (fun u => z (bI_0.mpr u))
          have := h67 _ z'.1 z'.2.1
          refine ⟨by omega, ih (x + 1) (by omega) (fun i i0 i1 => ?_) ?_⟩
          · by_cases u : i = x
            · rw [u]; exact ⟨⟨z'.1, z'.2.1⟩, z'.2.2⟩
            · exact g i i0 (by omega)
          · show 1 ≤ smW (M 67) (fun q => pk3 q a b c) x + M 67 (pk3 x a b c) ∧ smW (M 67) (fun q => pk3 q a b c) x + M 67 (pk3 x a b c) ≤ 1 + 100 * ((x + 1 : Nat) : Int)
            omega
        · have z' := bI_0.mp (Classical.not_not.mp z)
          have := u.2.2.1 x (by omega) (by omega)
          exact z' ⟨this.1.1, this.1.2, this.2⟩
  exact key (M 61 (6 * t + h)).toNat 0 (by omega) (fun i i0 i1 => by omega) ⟨Int.le_refl _, by show (1 : Int) ≤ 1 + 100 * ((0 : Nat) : Int); omega⟩
end RMD
