/-! ===== the law: one op after the other ===== -/
abbrev lwL (i : Int) : xL := [some (.inr (some 0)), some (.inr (some 1)), some (.inr (some 59)), some (.inl i)]
section LAW
variable {e : yE} {M : xM} {i L : Nat} {Q : xV → xS → Prop}
theorem xs0 {x : Int} (he : 0 < e.1) (h5 : e.2.2 0 = (5, L)) (hL : L ≤ 3584) (h0 : 0 ≤ x) (h1 : x < (L : Int)) : xin (yS e M) 0 (if (0 : Nat) = 0 then 5 else 1) x := by
  refine ⟨he, ?_, h0, ?_, by omega⟩
  · show (e.2.2 0).1 = _; rw [h5, if_pos rfl]
  · show x < (((e.2.2 0).2 : Nat) : Int); rw [h5]; exact h1
/-- behind an op: on with the next -/
theorem law_813 (h : xGo xft xNf xmt xtr 2046 162 18 (lwL ((i : Int) + 7)) [] (yS e M) Q) : xGo xft xNf xmt xtr 2046 162 813 (lwL (i : Int)) [] (yS e M) Q := xGo.in h
theorem law_type (hR : Rel e M) (h5 : e.2.2 0 = (5, L)) (hi : (i : Int) + 7 ≤ L) (hL : L ≤ 3584) (hx : ∀ j, rg (M 0 j)) (h : ∀ e' M', Rel e' M' → e'.2.2 0 = (5, L) → M' 0 = M 0 → xGo xft xNf xmt xtr 2046 162 813 (lwL (i : Int)) [] (yS e' M') Q) : xGo xft xNf xmt xtr 2046 162 124 (lwL (i : Int)) [] (yS e M) Q := by
  obtain ⟨hs, hr⟩ := hR.sh
  have h0 : 0 < e.1 := by have := hr.1; omega
  refine xGo.in ?_
  refine And.intro ⟨Nat.le_of_ble_eq_true rfl, Nat.le_of_ble_eq_true rfl, cob_1 hs⟩ ?_
  refine opL_use (f := fun X => []) (opL_y hr (op_type (d := 2046) hR (by decide) )) (fun y e1 M1 g0 g1 g2 g3 => ?_)
  refine And.intro ⟨Nat.le_of_ble_eq_true rfl, Nat.le_of_ble_eq_true rfl, rs_ob g2⟩ ?_
  refine g3 _ (fun M2 k1 k2 k3 => ?_)
  exact And.intro ⟨k1, k1⟩ (And.intro (fun _ => h e1 M2 k2 (g1.trans h5) k3) (fun z => absurd rfl z))
theorem law_maker (hR : Rel e M) (h5 : e.2.2 0 = (5, L)) (hi : (i : Int) + 7 ≤ L) (hL : L ≤ 3584) (hx : ∀ j, rg (M 0 j)) (h : ∀ e' M', Rel e' M' → e'.2.2 0 = (5, L) → M' 0 = M 0 → xGo xft xNf xmt xtr 2046 162 813 (lwL (i : Int)) [] (yS e' M') Q) : xGo xft xNf xmt xtr 2046 162 137 (lwL (i : Int)) [] (yS e M) Q := by
  obtain ⟨hs, hr⟩ := hR.sh
  have h0 : 0 < e.1 := by have := hr.1; omega
  refine xGo.in ?_
  refine And.intro (xs0 h0 h5 hL (by omega) (by omega)) ?_
  refine And.intro (xs0 h0 h5 hL (by omega) (by omega)) ?_
  refine And.intro (xs0 h0 h5 hL (by omega) (by omega)) ?_
  refine And.intro (xs0 h0 h5 hL (by omega) (by omega)) ?_
  refine And.intro (xs0 h0 h5 hL (by omega) (by omega)) ?_
  refine And.intro ⟨Nat.le_of_ble_eq_true rfl, Nat.le_of_ble_eq_true rfl, cob_1 hs⟩ ?_
  refine opL_use (f := fun X => [.inl (X ((i : Int) + 1)), .inl (X ((i : Int) + 2)), .inl (X ((i : Int) + 3)), .inl (X ((i : Int) + 4)), .inl (X ((i : Int) + 5))]) (opL_y hr (op_maker (d := 2046) hR (by decide) (hx _) (hx _) ⟨hx _, hx _, hx _⟩)) (fun y e1 M1 g0 g1 g2 g3 => ?_)
  refine And.intro (xs0 g0 (g1.trans h5) hL (by omega) (by omega)) ?_
  refine And.intro (xs0 g0 (g1.trans h5) hL (by omega) (by omega)) ?_
  refine And.intro (xs0 g0 (g1.trans h5) hL (by omega) (by omega)) ?_
  refine And.intro (xs0 g0 (g1.trans h5) hL (by omega) (by omega)) ?_
  refine And.intro (xs0 g0 (g1.trans h5) hL (by omega) (by omega)) ?_
  refine And.intro ⟨Nat.le_of_ble_eq_true rfl, Nat.le_of_ble_eq_true rfl, rs_ob g2⟩ ?_
  refine g3 _ (fun M2 k1 k2 k3 => ?_)
  exact And.intro ⟨k1, k1⟩ (And.intro (fun _ => h e1 M2 k2 (g1.trans h5) k3) (fun z => absurd rfl z))
theorem law_number (hR : Rel e M) (h5 : e.2.2 0 = (5, L)) (hi : (i : Int) + 7 ≤ L) (hL : L ≤ 3584) (hx : ∀ j, rg (M 0 j)) (h : ∀ e' M', Rel e' M' → e'.2.2 0 = (5, L) → M' 0 = M 0 → xGo xft xNf xmt xtr 2046 162 813 (lwL (i : Int)) [] (yS e' M') Q) : xGo xft xNf xmt xtr 2046 162 200 (lwL (i : Int)) [] (yS e M) Q := by
  obtain ⟨hs, hr⟩ := hR.sh
  have h0 : 0 < e.1 := by have := hr.1; omega
  refine xGo.in ?_
  refine And.intro (xs0 h0 h5 hL (by omega) (by omega)) ?_
  refine And.intro ⟨Nat.le_of_ble_eq_true rfl, Nat.le_of_ble_eq_true rfl, cob_1 hs⟩ ?_
  refine opL_use (f := fun X => [.inl (X ((i : Int) + 1))]) (opL_y hr (op_number (d := 2046) hR (by decide) (hx _))) (fun y e1 M1 g0 g1 g2 g3 => ?_)
  refine And.intro (xs0 g0 (g1.trans h5) hL (by omega) (by omega)) ?_
  refine And.intro ⟨Nat.le_of_ble_eq_true rfl, Nat.le_of_ble_eq_true rfl, rs_ob g2⟩ ?_
  refine g3 _ (fun M2 k1 k2 k3 => ?_)
  exact And.intro ⟨k1, k1⟩ (And.intro (fun _ => h e1 M2 k2 (g1.trans h5) k3) (fun z => absurd rfl z))
theorem law_make (hR : Rel e M) (h5 : e.2.2 0 = (5, L)) (hi : (i : Int) + 7 ≤ L) (hL : L ≤ 3584) (hx : ∀ j, rg (M 0 j)) (h : ∀ e' M', Rel e' M' → e'.2.2 0 = (5, L) → M' 0 = M 0 → xGo xft xNf xmt xtr 2046 162 813 (lwL (i : Int)) [] (yS e' M') Q) : xGo xft xNf xmt xtr 2046 162 223 (lwL (i : Int)) [] (yS e M) Q := by
  obtain ⟨hs, hr⟩ := hR.sh
  have h0 : 0 < e.1 := by have := hr.1; omega
  refine xGo.in ?_
  refine And.intro (xs0 h0 h5 hL (by omega) (by omega)) ?_
  refine And.intro (xs0 h0 h5 hL (by omega) (by omega)) ?_
  refine And.intro (xs0 h0 h5 hL (by omega) (by omega)) ?_
  refine And.intro (xs0 h0 h5 hL (by omega) (by omega)) ?_
  refine And.intro (xs0 h0 h5 hL (by omega) (by omega)) ?_
  refine And.intro ⟨Nat.le_of_ble_eq_true rfl, Nat.le_of_ble_eq_true rfl, cob_1 hs⟩ ?_
  refine opL_use (f := fun X => [.inl (X ((i : Int) + 1)), .inl (X ((i : Int) + 2)), .inl (X ((i : Int) + 3)), .inl (X ((i : Int) + 4)), .inl (X ((i : Int) + 5))]) (opL_y hr (op_make (d := 2046) hR (by decide) (hx _) (hx _) ⟨hx _, hx _, hx _⟩)) (fun y e1 M1 g0 g1 g2 g3 => ?_)
  refine And.intro (xs0 g0 (g1.trans h5) hL (by omega) (by omega)) ?_
  refine And.intro (xs0 g0 (g1.trans h5) hL (by omega) (by omega)) ?_
  refine And.intro (xs0 g0 (g1.trans h5) hL (by omega) (by omega)) ?_
  refine And.intro (xs0 g0 (g1.trans h5) hL (by omega) (by omega)) ?_
  refine And.intro (xs0 g0 (g1.trans h5) hL (by omega) (by omega)) ?_
  refine And.intro ⟨Nat.le_of_ble_eq_true rfl, Nat.le_of_ble_eq_true rfl, rs_ob g2⟩ ?_
  refine g3 _ (fun M2 k1 k2 k3 => ?_)
  exact And.intro ⟨k1, k1⟩ (And.intro (fun _ => h e1 M2 k2 (g1.trans h5) k3) (fun z => absurd rfl z))
theorem law_any (hR : Rel e M) (h5 : e.2.2 0 = (5, L)) (hi : (i : Int) + 7 ≤ L) (hL : L ≤ 3584) (hx : ∀ j, rg (M 0 j)) (h : ∀ e' M', Rel e' M' → e'.2.2 0 = (5, L) → M' 0 = M 0 → xGo xft xNf xmt xtr 2046 162 813 (lwL (i : Int)) [] (yS e' M') Q) : xGo xft xNf xmt xtr 2046 162 286 (lwL (i : Int)) [] (yS e M) Q := by
  obtain ⟨hs, hr⟩ := hR.sh
  have h0 : 0 < e.1 := by have := hr.1; omega
  refine xGo.in ?_
  refine And.intro (xs0 h0 h5 hL (by omega) (by omega)) ?_
  refine And.intro (xs0 h0 h5 hL (by omega) (by omega)) ?_
  refine And.intro ⟨Nat.le_of_ble_eq_true rfl, Nat.le_of_ble_eq_true rfl, cob_1 hs⟩ ?_
  refine opL_use (f := fun X => [.inl (X ((i : Int) + 1)), .inl (X ((i : Int) + 2))]) (opL_y hr (op_any (d := 2046) hR (by decide) (hx _) (hx _))) (fun y e1 M1 g0 g1 g2 g3 => ?_)
  refine And.intro (xs0 g0 (g1.trans h5) hL (by omega) (by omega)) ?_
  refine And.intro (xs0 g0 (g1.trans h5) hL (by omega) (by omega)) ?_
  refine And.intro ⟨Nat.le_of_ble_eq_true rfl, Nat.le_of_ble_eq_true rfl, rs_ob g2⟩ ?_
  refine g3 _ (fun M2 k1 k2 k3 => ?_)
  exact And.intro ⟨k1, k1⟩ (And.intro (fun _ => h e1 M2 k2 (g1.trans h5) k3) (fun z => absurd rfl z))
theorem law_also (hR : Rel e M) (h5 : e.2.2 0 = (5, L)) (hi : (i : Int) + 7 ≤ L) (hL : L ≤ 3584) (hx : ∀ j, rg (M 0 j)) (h : ∀ e' M', Rel e' M' → e'.2.2 0 = (5, L) → M' 0 = M 0 → xGo xft xNf xmt xtr 2046 162 813 (lwL (i : Int)) [] (yS e' M') Q) : xGo xft xNf xmt xtr 2046 162 319 (lwL (i : Int)) [] (yS e M) Q := by
  obtain ⟨hs, hr⟩ := hR.sh
  have h0 : 0 < e.1 := by have := hr.1; omega
  refine xGo.in ?_
  refine And.intro (xs0 h0 h5 hL (by omega) (by omega)) ?_
  refine And.intro (xs0 h0 h5 hL (by omega) (by omega)) ?_
  refine And.intro ⟨Nat.le_of_ble_eq_true rfl, Nat.le_of_ble_eq_true rfl, cob_1 hs⟩ ?_
  refine opL_use (f := fun X => [.inl (X ((i : Int) + 1)), .inl (X ((i : Int) + 2))]) (opL_y hr (op_also (d := 2046) hR (by decide) (hx _) (hx _))) (fun y e1 M1 g0 g1 g2 g3 => ?_)
  refine And.intro (xs0 g0 (g1.trans h5) hL (by omega) (by omega)) ?_
  refine And.intro (xs0 g0 (g1.trans h5) hL (by omega) (by omega)) ?_
  refine And.intro ⟨Nat.le_of_ble_eq_true rfl, Nat.le_of_ble_eq_true rfl, rs_ob g2⟩ ?_
  refine g3 _ (fun M2 k1 k2 k3 => ?_)
  exact And.intro ⟨k1, k1⟩ (And.intro (fun _ => h e1 M2 k2 (g1.trans h5) k3) (fun z => absurd rfl z))
theorem law_exactly (hR : Rel e M) (h5 : e.2.2 0 = (5, L)) (hi : (i : Int) + 7 ≤ L) (hL : L ≤ 3584) (hx : ∀ j, rg (M 0 j)) (h : ∀ e' M', Rel e' M' → e'.2.2 0 = (5, L) → M' 0 = M 0 → xGo xft xNf xmt xtr 2046 162 813 (lwL (i : Int)) [] (yS e' M') Q) : xGo xft xNf xmt xtr 2046 162 352 (lwL (i : Int)) [] (yS e M) Q := by
  obtain ⟨hs, hr⟩ := hR.sh
  have h0 : 0 < e.1 := by have := hr.1; omega
  refine xGo.in ?_
  refine And.intro (xs0 h0 h5 hL (by omega) (by omega)) ?_
  refine And.intro ⟨Nat.le_of_ble_eq_true rfl, Nat.le_of_ble_eq_true rfl, cob_1 hs⟩ ?_
  refine opL_use (f := fun X => [.inl (X ((i : Int) + 1))]) (opL_y hr (op_exactly (d := 2046) hR (by decide) (hx _))) (fun y e1 M1 g0 g1 g2 g3 => ?_)
  refine And.intro (xs0 g0 (g1.trans h5) hL (by omega) (by omega)) ?_
  refine And.intro ⟨Nat.le_of_ble_eq_true rfl, Nat.le_of_ble_eq_true rfl, rs_ob g2⟩ ?_
  refine g3 _ (fun M2 k1 k2 k3 => ?_)
  exact And.intro ⟨k1, k1⟩ (And.intro (fun _ => h e1 M2 k2 (g1.trans h5) k3) (fun z => absurd rfl z))
theorem law_made (hR : Rel e M) (h5 : e.2.2 0 = (5, L)) (hi : (i : Int) + 7 ≤ L) (hL : L ≤ 3584) (hx : ∀ j, rg (M 0 j)) (h : ∀ e' M', Rel e' M' → e'.2.2 0 = (5, L) → M' 0 = M 0 → xGo xft xNf xmt xtr 2046 162 813 (lwL (i : Int)) [] (yS e' M') Q) : xGo xft xNf xmt xtr 2046 162 375 (lwL (i : Int)) [] (yS e M) Q := by
  obtain ⟨hs, hr⟩ := hR.sh
  have h0 : 0 < e.1 := by have := hr.1; omega
  refine xGo.in ?_
  refine And.intro (xs0 h0 h5 hL (by omega) (by omega)) ?_
  refine And.intro (xs0 h0 h5 hL (by omega) (by omega)) ?_
  refine And.intro (xs0 h0 h5 hL (by omega) (by omega)) ?_
  refine And.intro (xs0 h0 h5 hL (by omega) (by omega)) ?_
  refine And.intro (xs0 h0 h5 hL (by omega) (by omega)) ?_
  refine And.intro ⟨Nat.le_of_ble_eq_true rfl, Nat.le_of_ble_eq_true rfl, cob_1 hs⟩ ?_
  refine opL_use (f := fun X => [.inl (X ((i : Int) + 1)), .inl (X ((i : Int) + 2)), .inl (X ((i : Int) + 3)), .inl (X ((i : Int) + 4)), .inl (X ((i : Int) + 5))]) (opL_y hr (op_made (d := 2046) hR (by decide) (hx _) (hx _) ⟨hx _, hx _, hx _⟩)) (fun y e1 M1 g0 g1 g2 g3 => ?_)
  refine And.intro (xs0 g0 (g1.trans h5) hL (by omega) (by omega)) ?_
  refine And.intro (xs0 g0 (g1.trans h5) hL (by omega) (by omega)) ?_
  refine And.intro (xs0 g0 (g1.trans h5) hL (by omega) (by omega)) ?_
  refine And.intro (xs0 g0 (g1.trans h5) hL (by omega) (by omega)) ?_
  refine And.intro (xs0 g0 (g1.trans h5) hL (by omega) (by omega)) ?_
  refine And.intro ⟨Nat.le_of_ble_eq_true rfl, Nat.le_of_ble_eq_true rfl, rs_ob g2⟩ ?_
  refine g3 _ (fun M2 k1 k2 k3 => ?_)
  exact And.intro ⟨k1, k1⟩ (And.intro (fun _ => h e1 M2 k2 (g1.trans h5) k3) (fun z => absurd rfl z))
theorem law_either (hR : Rel e M) (h5 : e.2.2 0 = (5, L)) (hi : (i : Int) + 7 ≤ L) (hL : L ≤ 3584) (hx : ∀ j, rg (M 0 j)) (h : ∀ e' M', Rel e' M' → e'.2.2 0 = (5, L) → M' 0 = M 0 → xGo xft xNf xmt xtr 2046 162 813 (lwL (i : Int)) [] (yS e' M') Q) : xGo xft xNf xmt xtr 2046 162 438 (lwL (i : Int)) [] (yS e M) Q := by
  obtain ⟨hs, hr⟩ := hR.sh
  have h0 : 0 < e.1 := by have := hr.1; omega
  refine xGo.in ?_
  refine And.intro (xs0 h0 h5 hL (by omega) (by omega)) ?_
  refine And.intro (xs0 h0 h5 hL (by omega) (by omega)) ?_
  refine And.intro ⟨Nat.le_of_ble_eq_true rfl, Nat.le_of_ble_eq_true rfl, cob_1 hs⟩ ?_
  refine opL_use (f := fun X => [.inl (X ((i : Int) + 1)), .inl (X ((i : Int) + 2))]) (opL_y hr (op_either (d := 2046) hR (by decide) (hx _) (hx _))) (fun y e1 M1 g0 g1 g2 g3 => ?_)
  refine And.intro (xs0 g0 (g1.trans h5) hL (by omega) (by omega)) ?_
  refine And.intro (xs0 g0 (g1.trans h5) hL (by omega) (by omega)) ?_
  refine And.intro ⟨Nat.le_of_ble_eq_true rfl, Nat.le_of_ble_eq_true rfl, rs_ob g2⟩ ?_
  refine g3 _ (fun M2 k1 k2 k3 => ?_)
  exact And.intro ⟨k1, k1⟩ (And.intro (fun _ => h e1 M2 k2 (g1.trans h5) k3) (fun z => absurd rfl z))
theorem law_match (hR : Rel e M) (h5 : e.2.2 0 = (5, L)) (hi : (i : Int) + 7 ≤ L) (hL : L ≤ 3584) (hx : ∀ j, rg (M 0 j)) (h : ∀ e' M', Rel e' M' → e'.2.2 0 = (5, L) → M' 0 = M 0 → xGo xft xNf xmt xtr 2046 162 813 (lwL (i : Int)) [] (yS e' M') Q) : xGo xft xNf xmt xtr 2046 162 471 (lwL (i : Int)) [] (yS e M) Q := by
  obtain ⟨hs, hr⟩ := hR.sh
  have h0 : 0 < e.1 := by have := hr.1; omega
  refine xGo.in ?_
  refine And.intro (xs0 h0 h5 hL (by omega) (by omega)) ?_
  refine And.intro (xs0 h0 h5 hL (by omega) (by omega)) ?_
  refine And.intro (xs0 h0 h5 hL (by omega) (by omega)) ?_
  refine And.intro (xs0 h0 h5 hL (by omega) (by omega)) ?_
  refine And.intro ⟨Nat.le_of_ble_eq_true rfl, Nat.le_of_ble_eq_true rfl, cob_1 hs⟩ ?_
  refine opL_use (f := fun X => [.inl (X ((i : Int) + 1)), .inl (X ((i : Int) + 2)), .inl (X ((i : Int) + 3)), .inl (X ((i : Int) + 4))]) (opL_z hr (op_match (d := 2046) hR (by decide) (hx _) ⟨hx _, hx _, hx _⟩)) (fun y e1 M1 g0 g1 g2 g3 => ?_)
  refine And.intro (xs0 g0 (g1.trans h5) hL (by omega) (by omega)) ?_
  refine And.intro (xs0 g0 (g1.trans h5) hL (by omega) (by omega)) ?_
  refine And.intro (xs0 g0 (g1.trans h5) hL (by omega) (by omega)) ?_
  refine And.intro (xs0 g0 (g1.trans h5) hL (by omega) (by omega)) ?_
  refine And.intro ⟨Nat.le_of_ble_eq_true rfl, Nat.le_of_ble_eq_true rfl, rs_ob g2⟩ ?_
  refine g3 _ (fun M2 k1 k2 k3 => ?_)
  exact And.intro ⟨k1, k1⟩ (And.intro (fun _ => h e1 M2 k2 (g1.trans h5) k3) (fun z => absurd rfl z))
theorem law_row (hR : Rel e M) (h5 : e.2.2 0 = (5, L)) (hi : (i : Int) + 7 ≤ L) (hL : L ≤ 3584) (hx : ∀ j, rg (M 0 j)) (h : ∀ e' M', Rel e' M' → e'.2.2 0 = (5, L) → M' 0 = M 0 → xGo xft xNf xmt xtr 2046 162 813 (lwL (i : Int)) [] (yS e' M') Q) : xGo xft xNf xmt xtr 2046 162 524 (lwL (i : Int)) [] (yS e M) Q := by
  obtain ⟨hs, hr⟩ := hR.sh
  have h0 : 0 < e.1 := by have := hr.1; omega
  refine xGo.in ?_
  refine And.intro (xs0 h0 h5 hL (by omega) (by omega)) ?_
  refine And.intro (xs0 h0 h5 hL (by omega) (by omega)) ?_
  refine And.intro (xs0 h0 h5 hL (by omega) (by omega)) ?_
  refine And.intro (xs0 h0 h5 hL (by omega) (by omega)) ?_
  refine And.intro (xs0 h0 h5 hL (by omega) (by omega)) ?_
  refine And.intro (xs0 h0 h5 hL (by omega) (by omega)) ?_
  refine And.intro ⟨Nat.le_of_ble_eq_true rfl, Nat.le_of_ble_eq_true rfl, cob_1 hs⟩ ?_
  refine opL_use (f := fun X => [.inl (X ((i : Int) + 1)), .inl (X ((i : Int) + 2)), .inl (X ((i : Int) + 3)), .inl (X ((i : Int) + 4)), .inl (X ((i : Int) + 5)), .inl (X ((i : Int) + 6))]) (opL_y hr (op_row (d := 2046) hR (by decide) (hx _) ⟨hx _, hx _, hx _⟩ (hx _) (hx _))) (fun y e1 M1 g0 g1 g2 g3 => ?_)
  refine And.intro (xs0 g0 (g1.trans h5) hL (by omega) (by omega)) ?_
  refine And.intro (xs0 g0 (g1.trans h5) hL (by omega) (by omega)) ?_
  refine And.intro (xs0 g0 (g1.trans h5) hL (by omega) (by omega)) ?_
  refine And.intro (xs0 g0 (g1.trans h5) hL (by omega) (by omega)) ?_
  refine And.intro (xs0 g0 (g1.trans h5) hL (by omega) (by omega)) ?_
  refine And.intro (xs0 g0 (g1.trans h5) hL (by omega) (by omega)) ?_
  refine And.intro ⟨Nat.le_of_ble_eq_true rfl, Nat.le_of_ble_eq_true rfl, rs_ob g2⟩ ?_
  refine g3 _ (fun M2 k1 k2 k3 => ?_)
  exact And.intro ⟨k1, k1⟩ (And.intro (fun _ => h e1 M2 k2 (g1.trans h5) k3) (fun z => absurd rfl z))
theorem law_run (hR : Rel e M) (h5 : e.2.2 0 = (5, L)) (hi : (i : Int) + 7 ≤ L) (hL : L ≤ 3584) (hx : ∀ j, rg (M 0 j)) (h : ∀ e' M', Rel e' M' → e'.2.2 0 = (5, L) → M' 0 = M 0 → xGo xft xNf xmt xtr 2046 162 813 (lwL (i : Int)) [] (yS e' M') Q) : xGo xft xNf xmt xtr 2046 162 599 (lwL (i : Int)) [] (yS e M) Q := by
  obtain ⟨hs, hr⟩ := hR.sh
  have h0 : 0 < e.1 := by have := hr.1; omega
  refine xGo.in ?_
  refine And.intro (xs0 h0 h5 hL (by omega) (by omega)) ?_
  refine And.intro (xs0 h0 h5 hL (by omega) (by omega)) ?_
  refine And.intro (xs0 h0 h5 hL (by omega) (by omega)) ?_
  refine And.intro (xs0 h0 h5 hL (by omega) (by omega)) ?_
  refine And.intro ⟨Nat.le_of_ble_eq_true rfl, Nat.le_of_ble_eq_true rfl, cob_1 hs⟩ ?_
  refine opL_use (f := fun X => [.inl (X ((i : Int) + 1)), .inl (X ((i : Int) + 2)), .inl (X ((i : Int) + 3)), .inl (X ((i : Int) + 4))]) (opL_z hr (op_run (d := 2046) hR (by decide) (hx _) ⟨hx _, hx _, hx _⟩)) (fun y e1 M1 g0 g1 g2 g3 => ?_)
  refine And.intro (xs0 g0 (g1.trans h5) hL (by omega) (by omega)) ?_
  refine And.intro (xs0 g0 (g1.trans h5) hL (by omega) (by omega)) ?_
  refine And.intro (xs0 g0 (g1.trans h5) hL (by omega) (by omega)) ?_
  refine And.intro (xs0 g0 (g1.trans h5) hL (by omega) (by omega)) ?_
  refine And.intro ⟨Nat.le_of_ble_eq_true rfl, Nat.le_of_ble_eq_true rfl, rs_ob g2⟩ ?_
  refine g3 _ (fun M2 k1 k2 k3 => ?_)
  exact And.intro ⟨k1, k1⟩ (And.intro (fun _ => h e1 M2 k2 (g1.trans h5) k3) (fun z => absurd rfl z))
theorem law_took (hR : Rel e M) (h5 : e.2.2 0 = (5, L)) (hi : (i : Int) + 7 ≤ L) (hL : L ≤ 3584) (hx : ∀ j, rg (M 0 j)) (h : ∀ e' M', Rel e' M' → e'.2.2 0 = (5, L) → M' 0 = M 0 → xGo xft xNf xmt xtr 2046 162 813 (lwL (i : Int)) [] (yS e' M') Q) : xGo xft xNf xmt xtr 2046 162 652 (lwL (i : Int)) [] (yS e M) Q := by
  obtain ⟨hs, hr⟩ := hR.sh
  have h0 : 0 < e.1 := by have := hr.1; omega
  refine xGo.in ?_
  refine And.intro (xs0 h0 h5 hL (by omega) (by omega)) ?_
  refine And.intro ⟨Nat.le_of_ble_eq_true rfl, Nat.le_of_ble_eq_true rfl, cob_1 hs⟩ ?_
  refine opL_use (f := fun X => [.inl (X ((i : Int) + 1))]) (opL_y hr (op_took (d := 2046) hR (by decide) (hx _))) (fun y e1 M1 g0 g1 g2 g3 => ?_)
  refine And.intro (xs0 g0 (g1.trans h5) hL (by omega) (by omega)) ?_
  refine And.intro ⟨Nat.le_of_ble_eq_true rfl, Nat.le_of_ble_eq_true rfl, rs_ob g2⟩ ?_
  refine g3 _ (fun M2 k1 k2 k3 => ?_)
  exact And.intro ⟨k1, k1⟩ (And.intro (fun _ => h e1 M2 k2 (g1.trans h5) k3) (fun z => absurd rfl z))
theorem law_tree (hR : Rel e M) (h5 : e.2.2 0 = (5, L)) (hi : (i : Int) + 7 ≤ L) (hL : L ≤ 3584) (hx : ∀ j, rg (M 0 j)) (h : ∀ e' M', Rel e' M' → e'.2.2 0 = (5, L) → M' 0 = M 0 → xGo xft xNf xmt xtr 2046 162 813 (lwL (i : Int)) [] (yS e' M') Q) : xGo xft xNf xmt xtr 2046 162 675 (lwL (i : Int)) [] (yS e M) Q := by
  obtain ⟨hs, hr⟩ := hR.sh
  have h0 : 0 < e.1 := by have := hr.1; omega
  refine xGo.in ?_
  refine And.intro (xs0 h0 h5 hL (by omega) (by omega)) ?_
  refine And.intro (xs0 h0 h5 hL (by omega) (by omega)) ?_
  refine And.intro ⟨Nat.le_of_ble_eq_true rfl, Nat.le_of_ble_eq_true rfl, cob_1 hs⟩ ?_
  refine opL_use (f := fun X => [.inl (X ((i : Int) + 1)), .inl (X ((i : Int) + 2))]) (opL_z hr (op_tree (d := 2046) hR (by decide) (hx _) (hx _))) (fun y e1 M1 g0 g1 g2 g3 => ?_)
  refine And.intro (xs0 g0 (g1.trans h5) hL (by omega) (by omega)) ?_
  refine And.intro (xs0 g0 (g1.trans h5) hL (by omega) (by omega)) ?_
  refine And.intro ⟨Nat.le_of_ble_eq_true rfl, Nat.le_of_ble_eq_true rfl, rs_ob g2⟩ ?_
  refine g3 _ (fun M2 k1 k2 k3 => ?_)
  exact And.intro ⟨k1, k1⟩ (And.intro (fun _ => h e1 M2 k2 (g1.trans h5) k3) (fun z => absurd rfl z))
theorem law_missing (hR : Rel e M) (h5 : e.2.2 0 = (5, L)) (hi : (i : Int) + 7 ≤ L) (hL : L ≤ 3584) (hx : ∀ j, rg (M 0 j)) (h : ∀ e' M', Rel e' M' → e'.2.2 0 = (5, L) → M' 0 = M 0 → xGo xft xNf xmt xtr 2046 162 813 (lwL (i : Int)) [] (yS e' M') Q) : xGo xft xNf xmt xtr 2046 162 708 (lwL (i : Int)) [] (yS e M) Q := by
  obtain ⟨hs, hr⟩ := hR.sh
  have h0 : 0 < e.1 := by have := hr.1; omega
  refine xGo.in ?_
  refine And.intro (xs0 h0 h5 hL (by omega) (by omega)) ?_
  refine And.intro ⟨Nat.le_of_ble_eq_true rfl, Nat.le_of_ble_eq_true rfl, cob_1 hs⟩ ?_
  refine opL_use (f := fun X => [.inl (X ((i : Int) + 1))]) (opL_z hr (op_missing (d := 2046) hR (by decide) (hx _))) (fun y e1 M1 g0 g1 g2 g3 => ?_)
  refine And.intro (xs0 g0 (g1.trans h5) hL (by omega) (by omega)) ?_
  refine And.intro ⟨Nat.le_of_ble_eq_true rfl, Nat.le_of_ble_eq_true rfl, rs_ob g2⟩ ?_
  refine g3 _ (fun M2 k1 k2 k3 => ?_)
  exact And.intro ⟨k1, k1⟩ (And.intro (fun _ => h e1 M2 k2 (g1.trans h5) k3) (fun z => absurd rfl z))
theorem law_part (hR : Rel e M) (h5 : e.2.2 0 = (5, L)) (hi : (i : Int) + 7 ≤ L) (hL : L ≤ 3584) (hx : ∀ j, rg (M 0 j)) (h : ∀ e' M', Rel e' M' → e'.2.2 0 = (5, L) → M' 0 = M 0 → xGo xft xNf xmt xtr 2046 162 813 (lwL (i : Int)) [] (yS e' M') Q) : xGo xft xNf xmt xtr 2046 162 731 (lwL (i : Int)) [] (yS e M) Q := by
  obtain ⟨hs, hr⟩ := hR.sh
  have h0 : 0 < e.1 := by have := hr.1; omega
  refine xGo.in ?_
  refine And.intro (xs0 h0 h5 hL (by omega) (by omega)) ?_
  refine And.intro ⟨Nat.le_of_ble_eq_true rfl, Nat.le_of_ble_eq_true rfl, cob_1 hs⟩ ?_
  refine opL_use (f := fun X => [.inl (X ((i : Int) + 1))]) (opL_y hr (op_part (d := 2046) hR (by decide) (hx _))) (fun y e1 M1 g0 g1 g2 g3 => ?_)
  refine And.intro (xs0 g0 (g1.trans h5) hL (by omega) (by omega)) ?_
  refine And.intro ⟨Nat.le_of_ble_eq_true rfl, Nat.le_of_ble_eq_true rfl, rs_ob g2⟩ ?_
  refine g3 _ (fun M2 k1 k2 k3 => ?_)
  exact And.intro ⟨k1, k1⟩ (And.intro (fun _ => h e1 M2 k2 (g1.trans h5) k3) (fun z => absurd rfl z))
theorem law_plain (hR : Rel e M) (h5 : e.2.2 0 = (5, L)) (hi : (i : Int) + 7 ≤ L) (hL : L ≤ 3584) (hx : ∀ j, rg (M 0 j)) (h : ∀ e' M', Rel e' M' → e'.2.2 0 = (5, L) → M' 0 = M 0 → xGo xft xNf xmt xtr 2046 162 813 (lwL (i : Int)) [] (yS e' M') Q) : xGo xft xNf xmt xtr 2046 162 754 (lwL (i : Int)) [] (yS e M) Q := by
  obtain ⟨hs, hr⟩ := hR.sh
  have h0 : 0 < e.1 := by have := hr.1; omega
  refine xGo.in ?_
  refine And.intro (xs0 h0 h5 hL (by omega) (by omega)) ?_
  refine And.intro ⟨Nat.le_of_ble_eq_true rfl, Nat.le_of_ble_eq_true rfl, cob_1 hs⟩ ?_
  refine opL_use (f := fun X => [.inl (X ((i : Int) + 1))]) (opL_y hr (op_plain (d := 2046) hR (by decide) (hx _))) (fun y e1 M1 g0 g1 g2 g3 => ?_)
  refine And.intro (xs0 g0 (g1.trans h5) hL (by omega) (by omega)) ?_
  refine And.intro ⟨Nat.le_of_ble_eq_true rfl, Nat.le_of_ble_eq_true rfl, rs_ob g2⟩ ?_
  refine g3 _ (fun M2 k1 k2 k3 => ?_)
  exact And.intro ⟨k1, k1⟩ (And.intro (fun _ => h e1 M2 k2 (g1.trans h5) k3) (fun z => absurd rfl z))
theorem law_count (hR : Rel e M) (h5 : e.2.2 0 = (5, L)) (hi : (i : Int) + 7 ≤ L) (hL : L ≤ 3584) (hx : ∀ j, rg (M 0 j)) (h : ∀ e' M', Rel e' M' → e'.2.2 0 = (5, L) → M' 0 = M 0 → xGo xft xNf xmt xtr 2046 162 813 (lwL (i : Int)) [] (yS e' M') Q) : xGo xft xNf xmt xtr 2046 162 777 (lwL (i : Int)) [] (yS e M) Q := by
  obtain ⟨hs, hr⟩ := hR.sh
  have h0 : 0 < e.1 := by have := hr.1; omega
  refine xGo.in ?_
  refine And.intro (xs0 h0 h5 hL (by omega) (by omega)) ?_
  refine And.intro ⟨Nat.le_of_ble_eq_true rfl, Nat.le_of_ble_eq_true rfl, cob_1 hs⟩ ?_
  refine opL_use (f := fun X => [.inl (X ((i : Int) + 1))]) (opL_y hr (op_count (d := 2046) hR (by decide) (hx _))) (fun y e1 M1 g0 g1 g2 g3 => ?_)
  refine And.intro (xs0 g0 (g1.trans h5) hL (by omega) (by omega)) ?_
  refine And.intro ⟨Nat.le_of_ble_eq_true rfl, Nat.le_of_ble_eq_true rfl, rs_ob g2⟩ ?_
  refine g3 _ (fun M2 k1 k2 k3 => ?_)
  exact And.intro ⟨k1, k1⟩ (And.intro (fun _ => h e1 M2 k2 (g1.trans h5) k3) (fun z => absurd rfl z))
theorem law_check (hR : Rel e M) (h5 : e.2.2 0 = (5, L)) (hi : (i : Int) + 7 ≤ L) (hL : L ≤ 3584) (hx : ∀ j, rg (M 0 j)) (h : ∀ e' M', Rel e' M' → e'.2.2 0 = (5, L) → M' 0 = M 0 → xGo xft xNf xmt xtr 2046 162 813 (lwL (i : Int)) [] (yS e' M') Q) : xGo xft xNf xmt xtr 2046 162 800 (lwL (i : Int)) [] (yS e M) Q := by
  obtain ⟨hs, hr⟩ := hR.sh
  have h0 : 0 < e.1 := by have := hr.1; omega
  refine xGo.in ?_
  refine And.intro ⟨Nat.le_of_ble_eq_true rfl, Nat.le_of_ble_eq_true rfl, cob_1 hs⟩ ?_
  refine opL_use (f := fun X => []) (opL_z hr (op_check (d := 2046) hR (by decide) )) (fun y e1 M1 g0 g1 g2 g3 => ?_)
  refine And.intro ⟨Nat.le_of_ble_eq_true rfl, Nat.le_of_ble_eq_true rfl, rs_ob g2⟩ ?_
  refine g3 _ (fun M2 k1 k2 k3 => ?_)
  exact And.intro ⟨k1, k1⟩ (And.intro (fun _ => h e1 M2 k2 (g1.trans h5) k3) (fun z => absurd rfl z))
theorem law_sw {x : Int} (z : ¬ (x < 0 ∨ 18 < x)) (hR : Rel e M) (h5 : e.2.2 0 = (5, L)) (hi : (i : Int) + 7 ≤ L) (hL : L ≤ 3584) (hx : ∀ j, rg (M 0 j)) (hh : ∀ e' M', Rel e' M' → e'.2.2 0 = (5, L) → M' 0 = M 0 → xGo xft xNf xmt xtr 2046 162 813 (lwL (i : Int)) [] (yS e' M') Q) : xGo xft xNf xmt xtr 2046 162 (((33 : Nat) : Int) + (#[91, 104, 167, 190, 253, 286, 319, 342, 405, 438, 491, 566, 619, 642, 675, 698, 721, 744, 767] : Array Int).getD (x - 0).toNat 0).toNat (lwL (i : Int)) [] (yS e M) Q := by
  have hc : x = 0 ∨ x = 1 ∨ x = 2 ∨ x = 3 ∨ x = 4 ∨ x = 5 ∨ x = 6 ∨ x = 7 ∨ x = 8 ∨ x = 9 ∨ x = 10 ∨ x = 11 ∨ x = 12 ∨ x = 13 ∨ x = 14 ∨ x = 15 ∨ x = 16 ∨ x = 17 ∨ x = 18 := by omega
  clear z
  rcases hc with y | y | y | y | y | y | y | y | y | y | y | y | y | y | y | y | y | y | y
  · subst y; exact law_type hR h5 hi hL hx hh
  · subst y; exact law_maker hR h5 hi hL hx hh
  · subst y; exact law_number hR h5 hi hL hx hh
  · subst y; exact law_make hR h5 hi hL hx hh
  · subst y; exact law_any hR h5 hi hL hx hh
  · subst y; exact law_also hR h5 hi hL hx hh
  · subst y; exact law_exactly hR h5 hi hL hx hh
  · subst y; exact law_made hR h5 hi hL hx hh
  · subst y; exact law_either hR h5 hi hL hx hh
  · subst y; exact law_match hR h5 hi hL hx hh
  · subst y; exact law_row hR h5 hi hL hx hh
  · subst y; exact law_run hR h5 hi hL hx hh
  · subst y; exact law_took hR h5 hi hL hx hh
  · subst y; exact law_tree hR h5 hi hL hx hh
  · subst y; exact law_missing hR h5 hi hL hx hh
  · subst y; exact law_part hR h5 hi hL hx hh
  · subst y; exact law_plain hR h5 hi hL hx hh
  · subst y; exact law_count hR h5 hi hL hx hh
  · subst y; exact law_check hR h5 hi hL hx hh
theorem law_18 (hR : Rel e M) (h5 : e.2.2 0 = (5, L)) (hL : L ≤ 3584) (hi4 : i ≤ 4000) (hx : ∀ j, rg (M 0 j)) (hq : Q (.inl 1) (yS e M)) (h : (i : Int) + 7 ≤ L → ∀ e' M', Rel e' M' → e'.2.2 0 = (5, L) → M' 0 = M 0 → xGo xft xNf xmt xtr 2046 162 813 (lwL (i : Int)) [] (yS e' M') Q) : xGo xft xNf xmt xtr 2046 162 18 (lwL (i : Int)) [] (yS e M) Q := by
  obtain ⟨hs, hr⟩ := hR.sh
  have h0 : 0 < e.1 := by have := hr.1; omega
  refine xGo.in ?_
  refine And.intro ⟨h0, (by show (e.2.2 0).1 = _; rw [h5, if_pos rfl])⟩ ?_
  refine xgo_top (v' := .inl (L : Int)) (by show Sum.inl (((e.2.2 0).2 : Nat) : Int) = _; rw [h5]) ?_
  refine And.intro ⟨⟨by omega, by omega⟩, rg_lit (by constructor <;> omega)⟩ (And.intro (fun z => And.intro (Or.inr rfl) hq) (fun z => ?_))
  have hi : (i : Int) + 7 ≤ L := by have z : ¬ ((L : Int) - 7 < i) := z; omega
  have hh := h hi
  refine And.intro (xs0 h0 h5 hL (by omega) (by omega)) ?_
  exact And.intro (i32_rg _) (And.intro (fun _ => hh e M hR h5 rfl) (fun z => law_sw z hR h5 hi hL hx hh))
theorem law_loop (hL : L ≤ 3584) (hQ : ∀ e M, Rel e M → Q (.inl 1) (yS e M)) : ∀ (n i : Nat) (e : yE) (M : xM), L ≤ i + n → i ≤ 4000 → Rel e M → e.2.2 0 = (5, L) → (∀ j, rg (M 0 j)) → xGo xft xNf xmt xtr 2046 162 18 (lwL (i : Int)) [] (yS e M) Q := by
  intro n
  induction n with
  | zero =>
    intro i e M hn hi4 hR h5 hx
    exact law_18 hR h5 hL hi4 hx (hQ e M hR) (fun z => absurd z (by omega))
  | succ n ih =>
    intro i e M hn hi4 hR h5 hx
    refine law_18 hR h5 hL hi4 hx (hQ e M hR) (fun z e' M' k1 k2 k3 => law_813 ?_)
    have := ih (i + 7) e' M' (by omega) (by omega) k1 k2 (fun j => by rw [k3]; exact hx j)
    exact this
/-- the law's whole run -/
theorem law_all {H : Nat → Nat × Nat} {M : xM} (hL : L ≤ 3584) (hH : H 0 = (5, L)) (hx : ∀ j, rg (M 0 j)) : xGo xft xNf xmt xtr 2046 162 0 [some (.inr (some 0)), none, none, none] [] (1, 0, H, M) (fun r S => r = .inl 1 ∧ S.1 ≤ 600001 ∧ S.2.1 ≤ 7302250) := by
  refine law_start (by decide) (by rw [hH]) (fun e M' k1 k2 k3 => ?_)
  refine law_loop hL (fun e M hR => ⟨rfl, ?_⟩) L 0 e M' (by omega) (by omega) k1 (k2.trans hH) (fun j => by rw [k3]; exact hx j)
  obtain ⟨cs, cl, hc, hro, -, -, -, hm⟩ := hR
  obtain ⟨hm1, hm2⟩ := hm
  have b25 := hro.2.1.2
  have p1 : cs ≤ 8192 := by have := hc.2.2.1.2.1; unfold pwS at this; omega
  have p2 : cl ≤ 524288 := by have := hc.2.2.1.2.2; unfold pw at this; omega
  refine ⟨?_, ?_⟩
  · show e.1 ≤ 600001; omega
  · show e.2.1 ≤ 7302250; omega
end LAW
