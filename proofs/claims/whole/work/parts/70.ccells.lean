/-! ===== the class: growing cells ===== -/
theorem wnew_ne {α : Type} {M : Nat → α} {n k : Nat} {f : α} (h : k ≠ n) : xnew M n f k = M k := by unfold xnew; rw [if_neg h]
theorem wnew_at {α : Type} {M : Nat → α} {n : Nat} {f : α} : xnew M n f n = f := by unfold xnew; rw [if_pos rfl]
/-- a new array of ints behind all others -/
abbrev yN (e : yE) (n : Nat) : yE := (e.1 + 1, e.2.1 + n, xnew e.2.2 e.1 (1, n))
theorem yN_le {e : yE} {n : Nat} : yLe e (yN e n) := ⟨Nat.le_succ _, fun k hk => wnew_ne (by omega)⟩
theorem yN_at {e : yE} {n : Nat} (hn : n ≤ 2147483647) (h0 : 0 < e.1) : yA (yN e n) e.1 1 n := ⟨h0, Nat.lt_succ_self _, wnew_at, hn⟩
/-- the copy's memory -/
abbrev yCp (e : yE) (M : xM) (a n : Nat) : xM := xcpy (xnew M e.1 (fun _ => 0)) a 0 e.1 0 n
theorem yCp_ne {e : yE} {M : xM} {a n k : Nat} (h : k ≠ e.1) : yCp e M a n k = M k := by
  funext i
  show (if k = e.1 ∧ _ ∧ _ then _ else xnew M e.1 _ k i) = _
  rw [if_neg (fun z => h z.1), wnew_ne h]
theorem yCp_at {e : yE} {M : xM} {a n : Nat} {i : Int} (ha : a ≠ e.1) (h0 : 0 ≤ i) (h1 : i < n) : yCp e M a n e.1 i = M a i := by
  show (if e.1 = e.1 ∧ _ ∧ _ then xnew M e.1 _ a (0 + (i - 0)) else _) = _
  rw [if_pos ⟨rfl, h0, by omega⟩, wnew_ne ha, show (0 : Int) + (i - 0) = i by omega]
theorem x_copyOf {e : yE} {d a n n1 : Nat} {x1 : Int} {M : xM} {P : xV → xS → Prop} (hx : x1 = (n1 : Int)) (h0 : yA e a 1 n) (hne : n ≠ n1) (hb : n ≤ n1 ∧ n1 ≤ 50000000) (h : P (.inr (some e.1)) (yS (yN e n1) (yCp e M a n))) : xcall xft xNf xmt xtr (d + 1) 161 [.inr (some a), .inl x1] (yS e M) P := by
  subst hx
  have ha := h0.2.1
  have hsh := h0.2.2.1
  have h1 : yA (yN e n1) a 1 n := h0.le yN_le
  have h2 : yA (yN e n1) e.1 1 n1 := yN_at (by omega) (by have := h0.1; omega)
  refine xcall_of ?_
  refine xGo.in ?_
  refine And.intro (xi_len h0) ?_
  refine xgo_top (xlen_v h0) ?_
  refine And.intro ⟨⟨by omega, by omega⟩, ⟨by omega, by omega⟩⟩ (And.intro (fun _ => ?_) (fun c => absurd (show ¬ ((n1 : Int) = (n : Int)) by omega) c))
  refine And.intro ⟨by omega, by omega⟩ ?_
  refine And.intro (xi_len (e := yN e n1) h1) ?_
  refine xgo_top (xlen_v (e := yN e n1) h1) ?_
  refine And.intro ⟨Nat.le_of_ble_eq_true rfl, ⟨by omega, by omega⟩, ⟨by omega, by omega⟩⟩ ?_
  refine xgo_top (v' := .inl (n : Int)) ?_ ?_
  · show (Sum.inl (if (n1 : Int) < (n : Int) then (n1 : Int) else (n : Int)) : xV) = _
    rw [if_neg (by omega)]
  · refine And.intro (xi_cpy (e := yN e n1) h1 h2 (show ¬ a = e.1 by omega) ⟨by omega, by omega, by omega, by omega, by omega⟩ ⟨by omega, by omega⟩ (Nat.le_of_ble_eq_true rfl)) ?_
    exact h
/-- a Cells object at k: its three arrays of c places -/
def cel (e : yE) (M : xM) (k c : Nat) (q1 q2 q3 : Nat) : Prop := XSh1 k e ∧ (M k 1 = (q1 : Int) ∧ M k 2 = (q2 : Int) ∧ M k 3 = (q3 : Int)) ∧ (yA e q1 1 c ∧ yA e q2 1 c ∧ yA e q3 1 c) ∧ (q1 ≠ q2 ∧ q1 ≠ q3 ∧ q2 ≠ q3) ∧ (0 ≤ M k 0 ∧ M k 0 ≤ c) ∧ (256 ≤ c ∧ c ≤ 20000000)
theorem s_add63 {e : yE} {d k c q1 q2 q3 : Nat} {x1 x2 x3 : Int} {M : xM} {Q : Int → yE → xM → Prop} (hc : cel e M k c q1 q2 q3) (hlt : M k 0 < c)
    (h : Q (M k 0) e (xup (xup (xup (xup M q1 (M k 0) x1) q2 (M k 0) x2) q3 (M k 0) x3) k 0 (M k 0 + 1))) : xGo xft xNf xmt xtr d 22 63 [some (.inr (some k)), some (.inl x1), some (.inl x2), some (.inl x3)] [] (yS e M) (zI Q) := by
  obtain ⟨hk, ⟨r1, r2, r3⟩, ⟨a1, a2, a3⟩, ⟨n1, n2, n3⟩, h0, hcc⟩ := hc
  have k1 : k ≠ q1 := by rintro rfl; have := hk.2.2; have := a1.2.2.1; simp_all
  have k2 : k ≠ q2 := by rintro rfl; have := hk.2.2; have := a2.2.2.1; simp_all
  have k3 : k ≠ q3 := by rintro rfl; have := hk.2.2; have := a3.2.2.1; simp_all
  refine xGo.in ?_
  refine And.intro (ob1 hk) ?_
  refine xgo_top (xg3 rfl r1) ?_
  refine And.intro (ob1 hk) ?_
  refine And.intro (xi_st a1 ⟨h0.1, hlt⟩) ?_
  obtain ⟨M1, hM1⟩ : ∃ z : xM, z = xup M q1 (M k 0) x1 := ⟨_, rfl⟩
  refine xgo_st (e := e) (M := M1) (by subst hM1; rfl) ?_
  have f1 : ∀ i, M1 k i = M k i := fun i => by rw [hM1, xrd k1]
  refine And.intro (ob1 hk) ?_
  refine xgo_top (xg3 rfl (by show M1 k 2 = _; rw [f1]; exact r2)) ?_
  refine And.intro (ob1 hk) ?_
  refine And.intro (xi_st a2 (by show 0 ≤ M1 k 0 ∧ M1 k 0 < _; rw [f1]; exact ⟨h0.1, hlt⟩)) ?_
  obtain ⟨M2, hM2⟩ : ∃ z : xM, z = xup M1 q2 (M1 k 0) x2 := ⟨_, rfl⟩
  refine xgo_st (e := e) (M := M2) (by subst hM2; rfl) ?_
  have f2 : ∀ i, M2 k i = M k i := fun i => by rw [hM2, xrd k2, f1]
  refine And.intro (ob1 hk) ?_
  refine xgo_top (xg3 rfl (by show M2 k 3 = _; rw [f2]; exact r3)) ?_
  refine And.intro (ob1 hk) ?_
  refine And.intro (xi_st a3 (by show 0 ≤ M2 k 0 ∧ M2 k 0 < _; rw [f2]; exact ⟨h0.1, hlt⟩)) ?_
  obtain ⟨M3, hM3⟩ : ∃ z : xM, z = xup M2 q3 (M2 k 0) x3 := ⟨_, rfl⟩
  refine xgo_st (e := e) (M := M3) (by subst hM3; rfl) ?_
  have f3 : ∀ i, M3 k i = M k i := fun i => by rw [hM3, xrd k3, f2]
  refine And.intro (ob1 hk) ?_
  refine And.intro (ob1 hk) ?_
  obtain ⟨M4, hM4⟩ : ∃ z : xM, z = xup M3 k 0 (M3 k 0 + 1) := ⟨_, rfl⟩
  refine xgo_st (e := e) (M := M4) (by subst hM4; rfl) ?_
  refine And.intro (ob1 hk) ?_
  refine zI_ret (x := M4 k 0 - 1) ?_
  have e4 : M4 k 0 - 1 = M k 0 := by rw [hM4, xrs, f3]; omega
  rw [e4, hM4, f3, hM3, f2, hM2, f1, hM1]
  exact h
/-- what Cells.add leaves: new arrays' places, or none -/
def gro (e e' : yE) (M M' : xM) (k c c' q1 q2 q3 : Nat) : Prop := yLe e e' ∧ (∀ j, j < e.1 → j ≠ k → j ≠ q1 → j ≠ q2 → j ≠ q3 → M' j = M j) ∧ ((e' = e ∧ c' = c) ∨ (M k 0 = c ∧ e'.1 = e.1 + 3 ∧ e'.2.1 = e.2.1 + 6 * c ∧ c' = 2 * c))
theorem s_add {e : yE} {d k c0 q1 q2 q3 : Nat} {x1 x2 x3 : Int} {M : xM} {Q : Int → yE → xM → Prop} (hc : cel e M k c0 q1 q2 q3) (h99 : 99 < e.1) (hsz : M k 0 < 10000000)
    (h : ∀ e' M' c' p1 p2 p3, cel e' M' k c' p1 p2 p3 → gro e e' M M' k c0 c' q1 q2 q3 → ((p1 = q1 ∧ p2 = q2 ∧ p3 = q3) ∨ (e.1 ≤ p1 ∧ e.1 ≤ p2 ∧ e.1 ≤ p3)) → M' k 0 = M k 0 + 1 → (∀ i, 0 ≤ i → i < M k 0 → M' p1 i = M q1 i ∧ M' p2 i = M q2 i ∧ M' p3 i = M q3 i) → (M' p1 (M k 0) = x1 ∧ M' p2 (M k 0) = x2 ∧ M' p3 (M k 0) = x3) → Q (M k 0) e' M') : C_Ce_add e (d + 2) k x1 x2 x3 M Q := by
  have hc' := hc
  obtain ⟨hk, ⟨r1, r2, r3⟩, ⟨a1, a2, a3⟩, ⟨n1, n2, n3⟩, h0, hcc⟩ := hc'
  have k1 : k ≠ q1 := by rintro rfl; have := hk.2.2; have := a1.2.2.1; simp_all
  have k2 : k ≠ q2 := by rintro rfl; have := hk.2.2; have := a2.2.2.1; simp_all
  have k3 : k ≠ q3 := by rintro rfl; have := hk.2.2; have := a3.2.2.1; simp_all
  refine xcall_of ?_
  refine xGo.in ?_
  refine And.intro (ob1 hk) ?_
  refine And.intro (ob1 hk) ?_
  refine xgo_top (xg3 rfl r1) ?_
  refine And.intro (xi_len a1) ?_
  refine xgo_top (xlen_v a1) ?_
  refine And.intro ⟨⟨by show -2147483648 ≤ M k 0; omega, by show M k 0 ≤ 2147483647; omega⟩, ⟨by omega, by omega⟩⟩ (And.intro (fun c => ?_) (fun c => ?_))
  · -- there is room
    have c : ¬ M k 0 = (c0 : Int) := c
    have hlt : M k 0 < (c0 : Int) := by have := h0.2; omega
    refine s_add63 hc hlt ?_
    refine h e _ _ q1 q2 q3 ⟨hk, ⟨?_, ?_, ?_⟩, ⟨a1, a2, a3⟩, ⟨n1, n2, n3⟩, ?_, hcc⟩ ⟨yLe.rf, fun j _ hj1 hj2 hj3 hj4 => ?_, Or.inl ⟨rfl, rfl⟩⟩ (Or.inl ⟨rfl, rfl, rfl⟩) xrs (fun i i0 i1 => ⟨?_, ?_, ?_⟩) ⟨?_, ?_, ?_⟩
    · rw [xri (by decide), xrd k3, xrd k2, xrd k1]; exact r1
    · rw [xri (by decide), xrd k3, xrd k2, xrd k1]; exact r2
    · rw [xri (by decide), xrd k3, xrd k2, xrd k1]; exact r3
    · rw [xrs]; omega
    · rw [xrd hj1, xrd hj4, xrd hj3, xrd hj2]
    · rw [xrd (Ne.symm k1), xrd n2, xrd n1, xri (by omega)]
    · rw [xrd (Ne.symm k2), xrd n3, xri (by omega), xrd (Ne.symm n1)]
    · rw [xrd (Ne.symm k3), xri (by omega), xrd (Ne.symm n3), xrd (Ne.symm n2)]
    · rw [xrd (Ne.symm k1), xrd n2, xrd n1, xrs]
    · rw [xrd (Ne.symm k2), xrd n3, xrs]
    · rw [xrd (Ne.symm k3), xrs]
  · -- it grows
    have hfull : M k 0 = (c0 : Int) := Classical.not_not.mp c
    have hk1 : k < e.1 := ob1_lt hk
    have hq1 := a1.2.1
    have hq2 := a2.2.1
    have hq3 := a3.2.1
    have hmul : ∀ N : xM, N k 0 = M k 0 → N k 0 * 2 = ((2 * c0 : Nat) : Int) := by
      intro N hN; rw [hN, hfull]; omega
    refine And.intro (ob1 hk) ?_
    refine xgo_top (xg3 rfl r1) ?_
    refine And.intro (ob1 hk) ?_
    refine And.intro ⟨Nat.le_of_ble_eq_true rfl, Nat.le_of_ble_eq_true rfl, trivial⟩ ?_
    refine x_copyOf (hmul M rfl) a1 (by omega) (by omega) ?_
    obtain ⟨e1, he1⟩ : ∃ z : yE, z = yN e (2 * c0) := ⟨_, rfl⟩
    have l1 : yLe e e1 := by rw [he1]; exact yN_le
    have s1 : e1.1 = e.1 + 1 := by rw [he1]
    have b1 : e1.2.1 = e.2.1 + 2 * c0 := by rw [he1]
    have A1 : yA e1 e.1 1 (2 * c0) := by rw [he1]; exact yN_at (by omega) (by omega)
    rw [← he1]
    refine And.intro (gob (ob1 (hk.le l1)) (by show e.1 < e1.1; omega)) ?_
    obtain ⟨M1, hM1⟩ : ∃ z : xM, z = xup (yCp e M q1 c0) k 1 (e.1 : Int) := ⟨_, rfl⟩
    refine xgo_st (e := e1) (M := M1) (by subst hM1; rfl) ?_
    have f1 : ∀ i, i ≠ 1 → M1 k i = M k i := fun i hi => by rw [hM1, xri hi, yCp_ne (by omega)]
    have g1 : ∀ j, j ≠ k → j ≠ e.1 → M1 j = M j := fun j h1 h2 => by rw [hM1, xrd h1, yCp_ne h2]
    -- the second one
    refine And.intro (ob1 (hk.le l1)) ?_
    refine xgo_top (xg3 rfl (by show M1 k 2 = _; rw [f1 2 (by decide)]; exact r2)) ?_
    refine And.intro (ob1 (hk.le l1)) ?_
    refine And.intro ⟨Nat.le_of_ble_eq_true rfl, Nat.le_of_ble_eq_true rfl, trivial⟩ ?_
    refine x_copyOf (hmul M1 (f1 0 (by decide))) (a2.le l1) (by omega) (by omega) ?_
    obtain ⟨e2, he2⟩ : ∃ z : yE, z = yN e1 (2 * c0) := ⟨_, rfl⟩
    have l2 : yLe e1 e2 := by rw [he2]; exact yN_le
    have s2 : e2.1 = e.1 + 2 := by rw [he2]; show e1.1 + 1 = _; omega
    have b2 : e2.2.1 = e.2.1 + 4 * c0 := by rw [he2]; show e1.2.1 + 2 * c0 = _; omega
    have A2 : yA e2 e1.1 1 (2 * c0) := by rw [he2]; exact yN_at (by omega) (by omega)
    rw [← he2]
    refine And.intro (gob (ob1 (hk.le (l1.tr l2))) (by show e1.1 < e2.1; omega)) ?_
    obtain ⟨M2, hM2⟩ : ∃ z : xM, z = xup (yCp e1 M1 q2 c0) k 2 (e1.1 : Int) := ⟨_, rfl⟩
    refine xgo_st (e := e2) (M := M2) (by subst hM2; rfl) ?_
    have f2 : ∀ i, i ≠ 1 → i ≠ 2 → M2 k i = M k i := fun i hi hi2 => by rw [hM2, xri hi2, yCp_ne (by omega), f1 i hi]
    have g2 : ∀ j, j ≠ k → j ≠ e1.1 → M2 j = M1 j := fun j h1 h2 => by rw [hM2, xrd h1, yCp_ne h2]
    -- the third one
    refine And.intro (ob1 (hk.le (l1.tr l2))) ?_
    refine xgo_top (xg3 rfl (by show M2 k 3 = _; rw [f2 3 (by decide) (by decide)]; exact r3)) ?_
    refine And.intro (ob1 (hk.le (l1.tr l2))) ?_
    refine And.intro ⟨Nat.le_of_ble_eq_true rfl, Nat.le_of_ble_eq_true rfl, trivial⟩ ?_
    refine x_copyOf (hmul M2 (f2 0 (by decide) (by decide))) (a3.le (l1.tr l2)) (by omega) (by omega) ?_
    obtain ⟨e3, he3⟩ : ∃ z : yE, z = yN e2 (2 * c0) := ⟨_, rfl⟩
    have l3 : yLe e2 e3 := by rw [he3]; exact yN_le
    have s3 : e3.1 = e.1 + 3 := by rw [he3]; show e2.1 + 1 = _; omega
    have b3 : e3.2.1 = e.2.1 + 6 * c0 := by rw [he3]; show e2.2.1 + 2 * c0 = _; omega
    have A3 : yA e3 e2.1 1 (2 * c0) := by rw [he3]; exact yN_at (by omega) (by omega)
    rw [← he3]
    have l13 : yLe e e3 := (l1.tr l2).tr l3
    refine And.intro (gob (ob1 (hk.le l13)) (by show e2.1 < e3.1; omega)) ?_
    obtain ⟨M3, hM3⟩ : ∃ z : xM, z = xup (yCp e2 M2 q3 c0) k 3 (e2.1 : Int) := ⟨_, rfl⟩
    refine xgo_st (e := e3) (M := M3) (by subst hM3; rfl) ?_
    have g3 : ∀ j, j ≠ k → j ≠ e2.1 → M3 j = M2 j := fun j h1 h2 => by rw [hM3, xrd h1, yCp_ne h2]
    have z0 : M3 k 0 = M k 0 := by rw [hM3, xri (by decide), yCp_ne (by omega), f2 0 (by decide) (by decide)]
    have z1 : M3 k 1 = (e.1 : Int) := by rw [hM3, xri (by decide), yCp_ne (by omega), hM2, xri (by decide), yCp_ne (by omega), hM1, xrs]
    have z2 : M3 k 2 = (e1.1 : Int) := by rw [hM3, xri (by decide), yCp_ne (by omega), hM2, xrs]
    have z3 : M3 k 3 = (e2.1 : Int) := by rw [hM3, xrs]
    have o1 : ∀ i, 0 ≤ i → i < (c0 : Int) → M3 e.1 i = M q1 i := by
      intro i i0 i1
      rw [g3 e.1 (by omega) (by omega), g2 e.1 (by omega) (by omega), hM1, xrd (by omega), yCp_at (by omega) i0 i1]
    have o2 : ∀ i, 0 ≤ i → i < (c0 : Int) → M3 e1.1 i = M q2 i := by
      intro i i0 i1
      rw [g3 e1.1 (by omega) (by omega), hM2, xrd (by omega), yCp_at (by omega) i0 i1, g1 q2 (Ne.symm k2) (by omega)]
    have o3 : ∀ i, 0 ≤ i → i < (c0 : Int) → M3 e2.1 i = M q3 i := by
      intro i i0 i1
      rw [hM3, xrd (by omega), yCp_at (by omega) i0 i1, g2 q3 (Ne.symm k3) (by omega), g1 q3 (Ne.symm k3) (by omega)]
    have hc3 : cel e3 M3 k (2 * c0) e.1 e1.1 e2.1 := ⟨hk.le l13, ⟨z1, z2, z3⟩, ⟨A1.le (l2.tr l3), A2.le l3, A3⟩, ⟨by omega, by omega, by omega⟩, by rw [z0]; omega, by omega⟩
    refine s_add63 hc3 (by rw [z0]; omega) ?_
    rw [z0]
    have m1 : e.1 ≠ k := by omega
    have m2 : e1.1 ≠ k := by omega
    have m3 : e2.1 ≠ k := by omega
    refine h e3 _ (2 * c0) e.1 e1.1 e2.1 ⟨hk.le l13, ⟨?_, ?_, ?_⟩, ⟨A1.le (l2.tr l3), A2.le l3, A3⟩, ⟨by omega, by omega, by omega⟩, ?_, by omega⟩ ⟨l13, fun j hj hj1 hj2 hj3 hj4 => ?_, Or.inr ⟨hfull, s3, b3, rfl⟩⟩ (Or.inr ⟨by omega, by omega, by omega⟩) xrs (fun i i0 i1 => ⟨?_, ?_, ?_⟩) ⟨?_, ?_, ?_⟩
    · rw [xri (by decide), xrd (by omega), xrd (by omega), xrd (by omega)]; exact z1
    · rw [xri (by decide), xrd (by omega), xrd (by omega), xrd (by omega)]; exact z2
    · rw [xri (by decide), xrd (by omega), xrd (by omega), xrd (by omega)]; exact z3
    · rw [xrs]; omega
    · rw [xrd hj1, xrd (by omega), xrd (by omega), xrd (by omega), g3 j hj1 (by omega), g2 j hj1 (by omega), g1 j hj1 (by omega)]
    · rw [xrd m1, xrd (by omega), xrd (by omega), xri (by omega)]; exact o1 i i0 (by omega)
    · rw [xrd m2, xrd (by omega), xri (by omega), xrd (by omega)]; exact o2 i i0 (by omega)
    · rw [xrd m3, xri (by omega), xrd (by omega), xrd (by omega)]; exact o3 i i0 (by omega)
    · rw [xrd m1, xrd (by omega), xrd (by omega), xrs]
    · rw [xrd m2, xrd (by omega), xrs]
    · rw [xrd m3, xrs]
