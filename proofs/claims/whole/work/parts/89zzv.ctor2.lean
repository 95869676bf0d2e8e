/-! ===== the class: a new match, its constructor ===== -/
section CTP
variable {e : yE} {M : xM} {k : Nat}
theorem x_match {d : Nat} {n : Int} {P : xV → xS → Prop} (h0 : 58 < k) (h1 : e.1 = k + 1) (hc : e.2.2 k = (43, 0)) (hy : yA e 58 1 3) (hn : 1 ≤ n ∧ n ≤ 3) (h : ∀ r e' M', XSh3 k e' → e'.1 = k + 18 → e'.2.1 = e.2.1 + 3444 → (∀ j, j < k → e'.2.2 j = e.2.2 j) → (∀ j, j < k → M' j = M j) → M' k 0 = n → M' k 2 = 0 → M' k 7 = 1 → (∀ i, 0 ≤ i → i < n → M' (k + 1) i = M 58 i) → (∀ i, M' (k + 3) i = 0 ∧ M' (k + 4) i = 0) → P r (yS e' M')) : xcall xft xNf xmt xtr (d + 2) 29 [.inr (some k), .inl n, .inr (some 58)] (yS e M) P := by
  have b0 : bld 43 k [] e e M M := bld_0 (by omega) (by omega) hc
  refine xcall_of ?_
  refine xGo.in ?_
  refine And.intro (Nat.le_of_ble_eq_true rfl) ?_
  have s1 := bld_a (t := 1) (n := 3) (b := 1) b0
  refine And.intro ⟨by decide, by decide⟩ ?_
  refine And.intro (gob (bld_ob (a := 33) s1.1) (Nat.lt_succ_self _)) ?_
  obtain ⟨e1, he1⟩ : ∃ z : yE, z = mkA e 1 3 := ⟨_, rfl⟩
  obtain ⟨A1, hA1⟩ : ∃ z : xM, z = mkM e M k 1 := ⟨_, rfl⟩
  refine xgo_st (e := e1) (M := A1) (by subst he1 hA1; rfl) ?_
  rw [← he1, ← hA1] at s1
  obtain ⟨c1, v1, w1, o1, y1, z1⟩ := s1
  have q1 : e1.1 = k + 2 := by rw [c1.2.1, h1]; rfl
  clear he1 hA1
  refine And.intro (bld_ob (a := 33) c1) ?_
  obtain ⟨B1, hB1⟩ : ∃ z : xM, z = xup A1 k ((2 : Nat) : Int) 0 := ⟨_, rfl⟩
  refine xgo_st (e := e1) (M := B1) (by subst hB1; rfl) ?_
  have cb1 : bld 43 k [(1, 3)] e e1 M B1 := by rw [hB1]; exact bld_f c1
  have s2 := bld_a (t := 1) (n := 36) (b := 3) cb1
  refine And.intro ⟨by decide, by decide⟩ ?_
  refine And.intro (gob (bld_ob (a := 33) s2.1) (Nat.lt_succ_self _)) ?_
  obtain ⟨e2, he2⟩ : ∃ z : yE, z = mkA e1 1 36 := ⟨_, rfl⟩
  obtain ⟨A2, hA2⟩ : ∃ z : xM, z = mkM e1 B1 k 3 := ⟨_, rfl⟩
  refine xgo_st (e := e2) (M := A2) (by subst he2 hA2; rfl) ?_
  rw [← he2, ← hA2] at s2
  obtain ⟨c2, v2, w2, o2, y2, z2⟩ := s2
  have q2 : e2.1 = k + 3 := by rw [c2.2.1, h1]; rfl
  clear he2 hA2
  have s3 := bld_a (t := 1) (n := 12) (b := 4) c2
  refine And.intro ⟨by decide, by decide⟩ ?_
  refine And.intro (gob (bld_ob (a := 33) s3.1) (Nat.lt_succ_self _)) ?_
  obtain ⟨e3, he3⟩ : ∃ z : yE, z = mkA e2 1 12 := ⟨_, rfl⟩
  obtain ⟨A3, hA3⟩ : ∃ z : xM, z = mkM e2 A2 k 4 := ⟨_, rfl⟩
  refine xgo_st (e := e3) (M := A3) (by subst he3 hA3; rfl) ?_
  rw [← he3, ← hA3] at s3
  obtain ⟨c3, v3, w3, o3, y3, z3⟩ := s3
  have q3 : e3.1 = k + 4 := by rw [c3.2.1, h1]; rfl
  clear he3 hA3
  have s4 := bld_a (t := 1) (n := 12) (b := 5) c3
  refine And.intro ⟨by decide, by decide⟩ ?_
  refine And.intro (gob (bld_ob (a := 33) s4.1) (Nat.lt_succ_self _)) ?_
  obtain ⟨e4, he4⟩ : ∃ z : yE, z = mkA e3 1 12 := ⟨_, rfl⟩
  obtain ⟨A4, hA4⟩ : ∃ z : xM, z = mkM e3 A3 k 5 := ⟨_, rfl⟩
  refine xgo_st (e := e4) (M := A4) (by subst he4 hA4; rfl) ?_
  rw [← he4, ← hA4] at s4
  obtain ⟨c4, v4, w4, o4, y4, z4⟩ := s4
  have q4 : e4.1 = k + 5 := by rw [c4.2.1, h1]; rfl
  clear he4 hA4
  obtain ⟨-, -, c4c, c4d, c4e, c4f⟩ := c4
  -- the tree
  refine And.intro ⟨Nat.le_of_ble_eq_true rfl, Nat.le_of_ble_eq_true rfl, show 0 < e4.1 by omega, Nat.lt_succ_self _, (congrArg Prod.fst (wnew_at (M := e4.2.2) (n := e4.1) (f := (46, 0))) : (xnew e4.2.2 e4.1 (46, 0) e4.1).1 = 46)⟩ ?_
  refine x_tree (k := e4.1) (e := (e4.1 + 1, e4.2.1 + 17, xnew e4.2.2 e4.1 (46, 0))) (M := xnew A4 e4.1 (xfresh xft 36)) (by omega) rfl wnew_at (fun r e5 M5 t1 t2 t3 t4 t5 => ?_)
  have t4' : ∀ j, j < k + 5 → e5.2.2 j = e4.2.2 j := fun j hj => by rw [t4 j (by omega)]; exact wnew_ne (by omega)
  have t5' : ∀ j, j < k + 5 → M5 j = A4 j := fun j hj => by rw [t5 j (by omega)]; exact wnew_ne (by omega)
  have t3' : e5.2.1 = e4.2.1 + 17 + 3364 := t3
  clear t3 t4 t5
  rw [q4] at t1
  have sh : e5.2.2 k = (43, 0) := by rw [t4' k (by omega)]; exact c4c
  have obk : ∀ Mx, 0 < k ∧ xob (yS e5 Mx) k 33 := fun Mx => ⟨by omega, by show k < e5.1; omega, (congrArg Prod.fst sh : (e5.2.2 k).1 = 43)⟩
  refine And.intro (gob (obk _) (show e4.1 < e5.1 by omega)) ?_
  obtain ⟨B5, hB5⟩ : ∃ z : xM, z = xup M5 k ((6 : Nat) : Int) ((e4.1 : Nat) : Int) := ⟨_, rfl⟩
  refine xgo_st (e := e5) (M := B5) (by subst hB5; rfl) ?_
  refine And.intro (gob (obk _) (Or.inr rfl)) ?_
  obtain ⟨B6, hB6⟩ : ∃ z : xM, z = xup B5 k ((7 : Nat) : Int) 1 := ⟨_, rfl⟩
  refine xgo_st (e := e5) (M := B6) (by subst hB6; rfl) ?_
  refine And.intro (obk _) ?_
  obtain ⟨B7, hB7⟩ : ∃ z : xM, z = xup B6 k ((0 : Nat) : Int) n := ⟨_, rfl⟩
  refine xgo_st (e := e5) (M := B7) (by subst hB7; rfl) ?_
  -- what lies there
  have g : ∀ j, j ≠ k → B7 j = M5 j := fun j hj => by rw [hB7, xrd hj, hB6, xrd hj, hB5, xrd hj]
  have gk : ∀ i, i ≠ ((0 : Nat) : Int) → i ≠ ((7 : Nat) : Int) → i ≠ ((6 : Nat) : Int) → B7 k i = A4 k i := fun i y1 y2 y3 => by rw [hB7, xri y1, hB6, xri y2, hB5, xri y3, t5' k (by omega)]
  have f0 : B7 k ((0 : Nat) : Int) = n := by rw [hB7, xrs]
  have f7 : B7 k ((7 : Nat) : Int) = 1 := by rw [hB7, xri (by decide), hB6, xrs]
  have f6 : B7 k ((6 : Nat) : Int) = ((k + 5 : Nat) : Int) := by rw [hB7, xri (by decide), hB6, xri (by decide), hB5, xrs, q4]
  have f5 : B7 k ((5 : Nat) : Int) = ((k + 4 : Nat) : Int) := by rw [gk _ (by decide) (by decide) (by decide), v4, q3]
  have f4 : B7 k ((4 : Nat) : Int) = ((k + 3 : Nat) : Int) := by rw [gk _ (by decide) (by decide) (by decide), w4 _ (by decide), v3, q2]
  have f3 : B7 k ((3 : Nat) : Int) = ((k + 2 : Nat) : Int) := by rw [gk _ (by decide) (by decide) (by decide), w4 _ (by decide), w3 _ (by decide), v2, q1]
  have f2 : B7 k ((2 : Nat) : Int) = 0 := by rw [gk _ (by decide) (by decide) (by decide), w4 _ (by decide), w3 _ (by decide), w2 _ (by decide), hB1, xrs]
  have f1 : B7 k ((1 : Nat) : Int) = ((k + 1 : Nat) : Int) := by rw [gk _ (by decide) (by decide) (by decide), w4 _ (by decide), w3 _ (by decide), w2 _ (by decide), hB1, xri (by decide), v1, h1]
  have gl : ∀ j, j < k → B7 j = M j := fun j hj => by rw [g j (by omega), t5' j (by omega)]; exact c4e j (by omega) (by omega)
  have g3 : ∀ i, B7 (k + 3) i = 0 := fun i => by
    rw [g (k + 3) (by omega), t5' (k + 3) (by omega), o4 (k + 3) (by omega) (by omega), show k + 3 = e2.1 by omega]; exact y3 i
  have g4 : ∀ i, B7 (k + 4) i = 0 := fun i => by
    rw [g (k + 4) (by omega), t5' (k + 4) (by omega), show k + 4 = e3.1 by omega]; exact y4 i
  have shl : ∀ j, j < k → e5.2.2 j = e.2.2 j := fun j hj => by rw [t4' j (by omega)]; exact c4d j (by omega)
  have sA : ∀ j q, [(1, 3), (1, 36), (1, 12), (1, 12)][j]? = some q → j < 4 → e5.2.2 (k + 1 + j) = q := fun j q hq hj => by rw [t4' (k + 1 + j) (by omega), ← h1]; exact c4f j q hq
  have zz : e5.2.1 = e.2.1 + 3444 := by rw [t3', z4, z3, z2, z1]
  have e5k : e5.1 = k + 18 := by omega
  have y58 : yA e5 58 1 3 := ⟨by decide, by omega, by rw [shl 58 h0]; exact hy.2.2.1, by decide⟩
  have ya : yA e5 (k + 1) 1 3 := ⟨by omega, by omega, sA 0 _ rfl (by decide), by decide⟩
  clear hB5 hB6 hB7 hB1 v1 w1 o1 y1 z1 q1 v2 w2 o2 y2 z2 q2 v3 w3 o3 y3 z3 q3 v4 w4 o4 y4 z4 q4 c1 cb1 c2 c3 c4c c4d c4e c4f t2 t3' t4' t5' g gk b0
  -- one type after the other
  have key : ∀ (j x : Nat) (L : xM), (x : Int) + j = n → (∀ q, q ≠ k + 1 → L q = B7 q) → (∀ i, 0 ≤ i → i < (x : Int) → L (k + 1) i = M 58 i) → xGo xft xNf xmt xtr (d + 1) 29 63 [some (.inr (some k)), some (.inl n), some (.inr (some 58)), some (.inl (x : Int))] [] (yS e5 L) P := by
    intro j
    induction j with
    | zero =>
      intro x L hx b1 b2
      refine xGo.in ?_
      refine And.intro ⟨⟨by omega, by omega⟩, ⟨by omega, by omega⟩⟩ (And.intro (fun _ => ?_) (fun z => absurd (show n ≤ (x : Int) by omega) z))
      have Lk : L k = B7 k := b1 k (by omega)
      have hse : xseal xft xNf 3 k L := by
        intro j hj
        have hj : j < 8 := hj
        have hc : j = 0 ∨ j = 1 ∨ j = 2 ∨ j = 3 ∨ j = 4 ∨ j = 5 ∨ j = 6 ∨ j = 7 := by omega
        rw [Lk]
        rcases hc with y | y | y | y | y | y | y | y
        · subst y; exact ⟨fun u => absurd u (by decide), fun u => absurd u (by decide)⟩
        · subst y; exact ⟨fun _ => f1, fun u => absurd u (by decide)⟩
        · subst y; exact ⟨fun u => absurd u (by decide), fun u => absurd u (by decide)⟩
        · subst y; exact ⟨fun _ => f3, fun u => absurd u (by decide)⟩
        · subst y; exact ⟨fun _ => f4, fun u => absurd u (by decide)⟩
        · subst y; exact ⟨fun _ => f5, fun u => absurd u (by decide)⟩
        · subst y; exact ⟨fun _ => f6, fun u => absurd u (by decide)⟩
        · subst y; exact ⟨fun u => absurd u (by decide), fun u => absurd u (by decide)⟩
      refine And.intro (gob (obk _) hse) ?_
      refine h _ (e5.1, e5.2.1, xnew e5.2.2 k (13, 0)) L ⟨by omega, ?_, wnew_at, ?_, ?_, ?_, ?_, ?_⟩ e5k zz (fun j hj => ?_) (fun j hj => ?_) ?_ ?_ ?_ (fun i i0 i1 => b2 i i0 (by omega)) (fun i => ?_)
      · show k + 17 < e5.1; omega
      · show xnew e5.2.2 k (13, 0) (k + 1) = _; rw [wnew_ne (by omega)]; exact sA 0 _ rfl (by decide)
      · show xnew e5.2.2 k (13, 0) (k + 2) = _; rw [wnew_ne (by omega)]; exact sA 1 _ rfl (by decide)
      · show xnew e5.2.2 k (13, 0) (k + 3) = _; rw [wnew_ne (by omega)]; exact sA 2 _ rfl (by decide)
      · show xnew e5.2.2 k (13, 0) (k + 4) = _; rw [wnew_ne (by omega)]; exact sA 3 _ rfl (by decide)
      · obtain ⟨x1, x2, x3, x4, x5, x6, x7, x8, x9, x10, x11, x12, x13, x14, x15⟩ := t1
        refine ⟨x1, x2, ?_, ?_, ?_, ?_, ?_, ?_, ?_, ?_, ?_, ?_, ?_, ?_, ?_⟩
        · show xnew e5.2.2 k (13, 0) (k + 5) = _; rw [wnew_ne (by omega)]; exact x3
        · show xnew e5.2.2 k (13, 0) (k + 5 + 1) = _; rw [wnew_ne (by omega)]; exact x4
        · show xnew e5.2.2 k (13, 0) (k + 5 + 2) = _; rw [wnew_ne (by omega)]; exact x5
        · show xnew e5.2.2 k (13, 0) (k + 5 + 3) = _; rw [wnew_ne (by omega)]; exact x6
        · show xnew e5.2.2 k (13, 0) (k + 5 + 4) = _; rw [wnew_ne (by omega)]; exact x7
        · show xnew e5.2.2 k (13, 0) (k + 5 + 5) = _; rw [wnew_ne (by omega)]; exact x8
        · show xnew e5.2.2 k (13, 0) (k + 5 + 6) = _; rw [wnew_ne (by omega)]; exact x9
        · show xnew e5.2.2 k (13, 0) (k + 5 + 7) = _; rw [wnew_ne (by omega)]; exact x10
        · show xnew e5.2.2 k (13, 0) (k + 5 + 8) = _; rw [wnew_ne (by omega)]; exact x11
        · show xnew e5.2.2 k (13, 0) (k + 5 + 9) = _; rw [wnew_ne (by omega)]; exact x12
        · show xnew e5.2.2 k (13, 0) (k + 5 + 10) = _; rw [wnew_ne (by omega)]; exact x13
        · show xnew e5.2.2 k (13, 0) (k + 5 + 11) = _; rw [wnew_ne (by omega)]; exact x14
        · show xnew e5.2.2 k (13, 0) (k + 5 + 12) = _; rw [wnew_ne (by omega)]; exact x15
      · show xnew e5.2.2 k (13, 0) j = _; rw [wnew_ne (by omega)]; exact shl j hj
      · rw [b1 j (by omega)]; exact gl j hj
      · rw [Lk]; exact f0
      · rw [Lk]; exact f2
      · rw [Lk]; exact f7
      · rw [b1 (k + 3) (by omega), b1 (k + 4) (by omega)]; exact ⟨g3 i, g4 i⟩
    | succ j ih =>
      intro x L hx b1 b2
      refine xGo.in ?_
      refine And.intro ⟨⟨by omega, by omega⟩, ⟨by omega, by omega⟩⟩ (And.intro (fun z => absurd (show n ≤ (x : Int) from z) (by omega)) (fun _ => ?_))
      refine And.intro (obk _) ?_
      refine xgo_top (xg3 rfl (q := k + 1) (by show L k ((1 : Nat) : Int) = _; rw [b1 k (by omega)]; exact f1)) ?_
      refine And.intro (xi_ld y58 ⟨by omega, by omega⟩) ?_
      refine And.intro (xi_st ya ⟨by omega, by omega⟩) ?_
      obtain ⟨L2, hL2⟩ : ∃ z : xM, z = xup L (k + 1) (x : Int) (L 58 (x : Int)) := ⟨_, rfl⟩
      have e58 : L 58 (x : Int) = M 58 (x : Int) := by rw [b1 58 (by omega), gl 58 h0]
      have := ih (x + 1) L2 (by omega) (fun q hq => by rw [hL2, xrd hq]; exact b1 q hq) (fun i i0 i1 => by
        rw [hL2]
        by_cases z : i = x
        · rw [z, xrs, e58]
        · rw [xri z]; exact b2 i i0 (by omega))
      rw [hL2] at this
      exact this
  exact key n.toNat 0 B7 (by omega) (fun _ _ => rfl) (fun i i0 i1 => by omega)
end CTP
