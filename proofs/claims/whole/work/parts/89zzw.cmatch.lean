/-! ===== the class: match ===== -/
/-- a match more -/
def nMt (e e' : yE) (M M' : xM) (n : Int) (A : Int → Int) : Prop := XSh3 e.1 e' ∧ e'.1 = e.1 + 18 ∧ e'.2.1 = e.2.1 + 3452 ∧ yLe e e' ∧ (∀ j, j < e.1 → j ≠ 58 → j ≠ 28 → j ≠ 1 → M' j = M j) ∧ (M' 28 (M 1 4) = (e.1 : Int) ∧ ∀ i, i ≠ M 1 4 → M' 28 i = M 28 i) ∧ (M' 1 4 = M 1 4 + 1 ∧ ∀ i, i ≠ 4 → M' 1 i = M 1 i) ∧ (M' e.1 0 = n ∧ M' e.1 2 = 0 ∧ M' e.1 7 = 1) ∧ (∀ i, 0 ≤ i → i < n → M' (e.1 + 1) i = A i) ∧ ∀ i, M' (e.1 + 3) i = 0 ∧ M' (e.1 + 4) i = 0
section CMT
variable {e : yE} {d : Nat} {M : xM}
theorem s_areTypesC {n : Int} {Q : Int → xM → Prop} (hs : CSh e) (hn : 0 ≤ n ∧ n ≤ 3) (h2 : rg (M 2 0)) (hr : ∀ q, 0 ≤ q → q < n → rg (M 58 q)) (h1 : (∀ q, 0 ≤ q → q < n → 0 ≤ M 58 q ∧ M 58 q < M 2 0) → Q 1 M) (h0 : ¬ (∀ q, 0 ≤ q → q < n → 0 ≤ M 58 q ∧ M 58 q < M 2 0) → Q 0 M) : C_Ty_areTypes e (d + 2) 58 3 n M Q := by
  have key : ∀ (j x : Nat), (x : Int) + j = n → (∀ q, 0 ≤ q → q < (x : Int) → 0 ≤ M 58 q ∧ M 58 q < M 2 0) → C_Ty_areTypes_2 e (d + 1) 58 3 n x M Q := by
    intro j
    induction j with
    | zero => intro x hx g; exact c_Ty_areTypes_2 hs (caa_58 hs) ⟨⟨⟨by omega, by omega⟩, ⟨by omega, by omega⟩⟩, fun _ => h1 (fun q q0 q1 => g q q0 (by omega)), fun z => absurd (by omega) z⟩
    | succ j ih =>
      intro x hx g
      refine c_Ty_areTypes_2 hs (caa_58 hs) ⟨⟨⟨by omega, by omega⟩, ⟨by omega, by omega⟩⟩, fun z => absurd z (by omega), fun _ => ⟨by omega, s_isTypeC hs (hr x (by omega) (by omega)) h2 ⟨bI_rg, fun z => ih (x + 1) (by omega) (fun q q0 q1 => ?_), fun z => h0 (fun w => bI_0.mp (Classical.not_not.mp z) (w x (by omega) (by omega)))⟩⟩⟩
      by_cases y : q = x
      · rw [y]; exact Classical.not_not.mp (fun u => z (bI_0.mpr u))
      · exact g q q0 (by omega)
  exact c_Ty_areTypes (c_Ty_areTypes_0 hs (caa_58 hs) (key n.toNat 0 (by omega) (fun q q0 q1 => by omega)))
theorem s_allHaveC {Q : Int → xM → Prop} (hs : CSh e) (h2 : 0 ≤ M 2 0 ∧ M 2 0 ≤ 8) (hr : ∀ t, 0 ≤ t → t < 8 → rg (M 6 t)) (h1 : (∀ t, 0 ≤ t → t < M 2 0 → M 6 t ≠ 0) → Q 1 M) (h0 : ¬ (∀ t, 0 ≤ t → t < M 2 0 → M 6 t ≠ 0) → Q 0 M) : C_Ty_allHaveValues e (d + 1) M Q := by
  have key : ∀ (j x : Nat), (x : Int) + j = M 2 0 → (∀ q, 0 ≤ q → q < (x : Int) → M 6 q ≠ 0) → C_Ty_allHaveValues_2 e d x M Q := by
    intro j
    induction j with
    | zero => intro x hx g; exact c_Ty_allHaveValues_2 hs ⟨⟨⟨by omega, by omega⟩, ⟨by omega, by omega⟩⟩, fun _ => h1 (fun q q0 q1 => g q q0 (by omega)), fun z => absurd (by omega) z⟩
    | succ j ih =>
      intro x hx g
      refine c_Ty_allHaveValues_2 hs ⟨⟨⟨by omega, by omega⟩, ⟨by omega, by omega⟩⟩, fun z => absurd z (by omega), fun _ => ⟨by omega, hr x (by omega) (by omega), fun z => ih (x + 1) (by omega) (fun q q0 q1 => ?_), fun z => h0 (fun w => w x (by omega) (by omega) (Classical.not_not.mp z))⟩⟩
      by_cases y : q = x
      · rw [y]; exact z
      · exact g q q0 (by omega)
  exact c_Ty_allHaveValues (c_Ty_allHaveValues_0 hs (key (M 2 0).toNat 0 (by omega) (fun q q0 q1 => by omega)))
theorem s_matchC {n a b c : Int} {Q : Int → yE → xM → Prop} (hs : CSh e) (hn : rg n) (habc : rg a ∧ rg b ∧ rg c) (h14 : 0 ≤ M 1 4 ∧ M 1 4 ≤ 20) (h2 : 0 ≤ M 2 0 ∧ M 2 0 ≤ 8) (h6 : ∀ t, 0 ≤ t → t < 8 → rg (M 6 t))
    (hno : ¬ ((1 ≤ n ∧ n ≤ 3) ∧ M 1 4 < 20 ∧ (∀ k, 0 ≤ k → k < n → 0 ≤ pk3 k a b c ∧ pk3 k a b c < M 2 0) ∧ ∀ t, 0 ≤ t → t < M 2 0 → M 6 t ≠ 0) → ∀ M1, (∀ j, j ≠ 58 → M1 j = M j) → Q (-1) e M1)
    (hok : (1 ≤ n ∧ n ≤ 3) → M 1 4 < 20 → (∀ k, 0 ≤ k → k < n → 0 ≤ pk3 k a b c ∧ pk3 k a b c < M 2 0) → (∀ t, 0 ≤ t → t < M 2 0 → M 6 t ≠ 0) → ∀ e' M', nMt e e' M M' n (fun q => pk3 q a b c) → Q (M 1 4) e' M') : C_Mf_match e (d + 4) n a b c M Q := by
  have hpr : ∀ q, rg (pk3 q a b c) := fun q => by unfold pk3; split; exact habc.1; split; exact habc.2.1; exact habc.2.2
  have e58 := hs.1
  refine xcall_of ?_
  refine xGo.in ?_
  refine And.intro ⟨Nat.le_of_ble_eq_true rfl, Nat.le_of_ble_eq_true rfl, cob_1 hs⟩ ?_
  refine yV_use (s_giveC (d := d + 2) (M := M) (Q := fun M1 => (∀ j, j ≠ 58 → M1 j = M j) ∧ ∀ q, 0 ≤ q → q < 3 → M1 58 q = pk3 q a b c) hs (fun M1 g1 g58 => ⟨g1, g58⟩)) (fun _ M1 hg => ?_)
  obtain ⟨g1, g58⟩ := hg
  have q1 : M1 1 4 = M 1 4 := by rw [g1 1 (by decide)]
  have q2 : M1 2 = M 2 := g1 2 (by decide)
  have q6 : M1 6 = M 6 := g1 6 (by decide)
  refine And.intro ⟨hn, rg_lit (by decide)⟩ (And.intro (fun z => ?_) (fun z => ?_))
  · exact zI_ret (hno (fun u => absurd (show n < 1 from z) (by omega)) M1 g1)
  have z1 : ¬ n < 1 := z
  refine And.intro ⟨hn, rg_lit (by decide)⟩ (And.intro (fun z => ?_) (fun z => ?_))
  · exact zI_ret (hno (fun u => absurd (show 3 < n from z) (by omega)) M1 g1)
  have z2 : ¬ 3 < n := z
  refine And.intro (cob_1 hs) ?_
  refine And.intro ⟨(show rg (M1 1 4) by rw [q1]; exact ⟨by omega, by omega⟩), rg_lit (by decide)⟩ (And.intro (fun z => ?_) (fun z => ?_))
  rotate_left
  · have z : ¬ ¬ M1 1 4 = 20 := z
    rw [q1] at z
    exact zI_ret (hno (fun u => by omega) M1 g1)
  have z3 : ¬ M1 1 4 = 20 := z
  rw [q1] at z3
  refine And.intro (cob_1 hs) ?_
  refine And.intro (cob_1 hs) ?_
  refine And.intro ⟨Nat.le_of_ble_eq_true rfl, Nat.le_of_ble_eq_true rfl, cob_2 hs⟩ ?_
  have hT : (∀ q, 0 ≤ q → q < n → 0 ≤ M1 58 q ∧ M1 58 q < M1 2 0) ↔ (∀ k, 0 ≤ k → k < n → 0 ≤ pk3 k a b c ∧ pk3 k a b c < M 2 0) := by
    rw [q2]
    constructor
    · intro u k k0 k1; have := u k k0 k1; rw [g58 k k0 (by omega)] at this; exact this
    · intro u k k0 k1; rw [g58 k k0 (by omega)]; exact u k k0 k1
  refine yI_use (s_areTypesC (d := d + 1) (M := M1) (n := n) (Q := fun y M2 => M2 = M1 ∧ ((y = 1 ∧ (∀ q, 0 ≤ q → q < n → 0 ≤ M1 58 q ∧ M1 58 q < M1 2 0)) ∨ (y = 0 ∧ ¬ (∀ q, 0 ≤ q → q < n → 0 ≤ M1 58 q ∧ M1 58 q < M1 2 0)))) hs (by omega) (by rw [q2]; exact ⟨by omega, by omega⟩) (fun q q0 q1 => by rw [g58 q q0 (by omega)]; exact hpr q) (fun u => ⟨rfl, Or.inl ⟨rfl, u⟩⟩) (fun u => ⟨rfl, Or.inr ⟨rfl, u⟩⟩)) (fun y M2 hy => ?_)
  obtain ⟨rfl, hy⟩ := hy
  refine And.intro (show rg y by rcases hy with u | u <;> (rw [u.1]; exact ⟨by omega, by omega⟩)) (And.intro (fun z => ?_) (fun z => ?_))
  · have z : y = 0 := z
    refine zI_ret (hno (fun u => ?_) M2 g1)
    rcases hy with v | v
    · omega
    · exact v.2 (hT.mpr u.2.2.1)
  have z4 := hT.mp (by
    rcases hy with v | v
    · exact v.2
    · exact absurd v.1 z)
  refine And.intro (cob_1 hs) ?_
  refine And.intro ⟨Nat.le_of_ble_eq_true rfl, Nat.le_of_ble_eq_true rfl, cob_2 hs⟩ ?_
  refine yI_use (s_allHaveC (d := d + 2) (M := M2) (Q := fun y M3 => M3 = M2 ∧ ((y = 1 ∧ (∀ t, 0 ≤ t → t < M2 2 0 → M2 6 t ≠ 0)) ∨ (y = 0 ∧ ¬ (∀ t, 0 ≤ t → t < M2 2 0 → M2 6 t ≠ 0)))) hs (by rw [q2]; exact h2) (by rw [q6]; exact h6) (fun u => ⟨rfl, Or.inl ⟨rfl, u⟩⟩) (fun u => ⟨rfl, Or.inr ⟨rfl, u⟩⟩)) (fun y2 M3 hy2 => ?_)
  obtain ⟨rfl, hy2⟩ := hy2
  rw [q2, q6] at hy2
  refine And.intro (show rg y2 by rcases hy2 with u | u <;> (rw [u.1]; exact ⟨by omega, by omega⟩)) (And.intro (fun z => ?_) (fun z => ?_))
  rotate_left
  · have z : ¬ ¬ y2 = 0 := z
    refine zI_ret (hno (fun u => ?_) M3 g1)
    rcases hy2 with v | v
    · omega
    · exact v.2 u.2.2.2
  have z5 : ∀ t, 0 ≤ t → t < M 2 0 → M 6 t ≠ 0 := by
    rcases hy2 with v | v
    · exact v.2
    · exact absurd v.1 z
  -- it comes
  refine And.intro (cob_1 hs) ?_
  refine And.intro (cob_1 hs) ?_
  have l1 : yLe e (e.1 + 1, e.2.1 + 8, xnew e.2.2 e.1 (43, 0)) := ⟨Nat.le_succ _, fun k hk => wnew_ne (by omega)⟩
  refine And.intro (cob_1 (e := (e.1 + 1, e.2.1 + 8, xnew e.2.2 e.1 (43, 0))) (CSh.le hs l1)) ?_
  refine And.intro ⟨Nat.le_of_ble_eq_true rfl, Nat.le_of_ble_eq_true rfl, show 0 < e.1 by omega, Nat.lt_succ_self _, (congrArg Prod.fst (wnew_at (M := e.2.2) (n := e.1) (f := (43, 0))) : (xnew e.2.2 e.1 (43, 0) e.1).1 = 43)⟩ ?_
  refine x_match (d := d + 1) (k := e.1) (e := (e.1 + 1, e.2.1 + 8, xnew e.2.2 e.1 (43, 0))) (M := xnew M3 e.1 (xfresh xft 33)) e58 rfl wnew_at (caa_58 (CSh.le hs l1)) (by omega) (fun r e' M' t1 t2 t3 t4 t5 t6 t7 t8 t9 t10 => ?_)
  have t3' : e'.2.1 = e.2.1 + 8 + 3444 := t3
  have l2 : yLe e e' := ⟨by omega, fun k hk => by rw [t4 k hk]; exact wnew_ne (by omega)⟩
  have hs2 : CSh e' := CSh.le hs l2
  have t5' : ∀ j, j < e.1 → M' j = M3 j := fun j hj => by rw [t5 j hj]; exact wnew_ne (by omega)
  have w14 : M3 1 4 = M 1 4 := q1
  refine And.intro ⟨by decide, (xi_ldb (M := M') (caa_28 hs2) (i := M3 1 4) (by rw [w14]; omega)).2, show 0 < e.1 by omega, (ob3 (M := M') t1).2⟩ ?_
  obtain ⟨B1, hB1⟩ : ∃ z : xM, z = xup M' 28 (M3 1 4) ((e.1 : Nat) : Int) := ⟨_, rfl⟩
  refine xgo_st (e := e') (M := B1) (by subst hB1; rfl) ?_
  refine And.intro (cob_1 hs2) ?_
  refine And.intro (cob_1 hs2) ?_
  obtain ⟨B2, hB2⟩ : ∃ z : xM, z = xup B1 1 ((4 : Nat) : Int) (B1 1 ((4 : Nat) : Int) + 1) := ⟨_, rfl⟩
  refine xgo_st (e := e') (M := B2) (by subst hB2; rfl) ?_
  refine And.intro (cob_1 hs2) ?_
  have b14 : B1 1 ((4 : Nat) : Int) = M 1 4 := by rw [hB1, xrd (by decide), t5' 1 (by omega)]; exact w14
  have c14 : B2 1 ((4 : Nat) : Int) = M 1 4 + 1 := by rw [hB2, xrs, b14]
  have gB : ∀ j, j ≠ 1 → j ≠ 28 → B2 j = M' j := fun j y1 y2 => by rw [hB2, xrd y1, hB1, xrd y2]
  refine ⟨B2 1 ((4 : Nat) : Int) - 1, e', B2, rfl, rfl, ?_⟩
  rw [c14, show M 1 4 + 1 - 1 = M 1 4 by omega]
  refine hok (by omega) (by omega) z4 z5 e' B2 ⟨t1, by omega, by omega, l2, fun j y0 y1 y2 y3 => ?_, ⟨?_, fun i hi => ?_⟩, ⟨c14, fun i hi => ?_⟩, ⟨?_, ?_, ?_⟩, fun i i0 i1 => ?_, fun i => ?_⟩
  · rw [gB j y3 y2, t5' j y0]; exact g1 j y1
  · rw [hB2, xrd (by decide), hB1, w14, xrs]
  · rw [hB2, xrd (by decide), hB1, w14, xri hi, t5' 28 (by omega), g1 28 (by decide)]
  · rw [hB2, xri (show i ≠ ((4 : Nat) : Int) from hi), hB1, xrd (by decide), t5' 1 (by omega), g1 1 (by decide)]
  · rw [gB e.1 (by omega) (by omega)]; exact t6
  · rw [gB e.1 (by omega) (by omega)]; exact t7
  · rw [gB e.1 (by omega) (by omega)]; exact t8
  · rw [gB (e.1 + 1) (by omega) (by omega), t9 i i0 i1, wnew_ne (by omega)]; exact g58 i i0 (by omega)
  · rw [gB (e.1 + 3) (by omega) (by omega), gB (e.1 + 4) (by omega) (by omega)]; exact t10 i
end CMT
