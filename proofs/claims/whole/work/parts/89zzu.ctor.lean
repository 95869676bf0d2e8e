/-! ===== the class: a new match ===== -/
abbrev mkA (e : yE) (t n : Nat) : yE := (e.1 + 1, e.2.1 + n, xnew e.2.2 e.1 (t, n))
abbrev mkM (e : yE) (M : xM) (k b : Nat) : xM := xup (xnew M e.1 (fun _ => 0)) k (b : Int) ((e.1 : Nat) : Int)
/-- an object under way: its arrays so far, lying behind it -/
def bld (c k : Nat) (L : List (Nat × Nat)) (e0 e : yE) (M0 M : xM) : Prop := (0 < k ∧ k < e0.1) ∧ e.1 = e0.1 + L.length ∧ e.2.2 k = (c, 0) ∧ (∀ j, j < e0.1 → e.2.2 j = e0.2.2 j) ∧ (∀ j, j < e0.1 → j ≠ k → M j = M0 j) ∧ ∀ (j : Nat) q, L[j]? = some q → e.2.2 (e0.1 + j) = q
section CTO
variable {e0 e : yE} {M0 M : xM} {c k t n b : Nat} {L : List (Nat × Nat)}
theorem bld_0 (h0 : 0 < k) (h1 : k < e.1) (hc : e.2.2 k = (c, 0)) : bld c k [] e e M M := ⟨⟨h0, h1⟩, rfl, hc, fun _ _ => rfl, fun _ _ _ => rfl, fun j q h => by simp at h⟩
theorem bld_a (h : bld c k L e0 e M0 M) : bld c k (L ++ [(t, n)]) e0 (mkA e t n) M0 (mkM e M k b) ∧ (mkM e M k b k (b : Int) = (e.1 : Int)) ∧ (∀ i, i ≠ (b : Int) → mkM e M k b k i = M k i) ∧ (∀ j, j ≠ k → j ≠ e.1 → mkM e M k b j = M j) ∧ (∀ i, mkM e M k b e.1 i = 0) ∧ (mkA e t n).2.1 = e.2.1 + n := by
  obtain ⟨⟨h1, h2⟩, h3, h4, h5, h6, h7⟩ := h
  have hk : k ≠ e.1 := by omega
  refine ⟨⟨⟨h1, h2⟩, ?_, ?_, fun j hj => ?_, fun j hj hjk => ?_, fun j q hq => ?_⟩, ?_, fun i hi => ?_, fun j hj hj2 => ?_, fun i => ?_, rfl⟩
  · show e.1 + 1 = _; rw [List.length_append, h3]; rfl
  · show xnew e.2.2 e.1 (t, n) k = _; rw [wnew_ne hk]; exact h4
  · show xnew e.2.2 e.1 (t, n) j = _; rw [wnew_ne (by omega)]; exact h5 j hj
  · show xup _ k _ _ j = _; rw [xrd hjk, wnew_ne (by omega)]; exact h6 j hj hjk
  · show xnew e.2.2 e.1 (t, n) (e0.1 + j) = q
    by_cases z : j < L.length
    · rw [wnew_ne (by omega)]
      rw [List.getElem?_append_left z] at hq
      exact h7 j q hq
    · rw [List.getElem?_append_right (by omega)] at hq
      by_cases y : j = L.length
      · rw [y, Nat.sub_self] at hq
        rw [y, ← h3, wnew_at]
        exact Option.some.inj hq
      · rw [List.getElem?_eq_none (by show [(t, n)].length ≤ _; simp; omega)] at hq
        cases hq
  · show xup _ k _ _ k _ = _; rw [xrs]
  · show xup _ k _ _ k i = _; rw [xri hi, wnew_ne hk]
  · show xup _ k _ _ j = _; rw [xrd hj, wnew_ne hj2]
  · show xup _ k _ _ e.1 i = _; rw [xrd (Ne.symm hk), wnew_at]
/-- a plain field -/
theorem bld_f {v : Int} (h : bld c k L e0 e M0 M) : bld c k L e0 e M0 (xup M k b v) := by
  obtain ⟨h1, h3, h4, h5, h6, h7⟩ := h
  exact ⟨h1, h3, h4, h5, fun j hj hjk => by rw [xrd hjk]; exact h6 j hj hjk, h7⟩
theorem bld_ob {a : Nat} (h : bld (10 + a) k L e0 e M0 M) : 0 < k ∧ xob (yS e M) k a := by
  obtain ⟨⟨h1, h2⟩, h3, h4, -⟩ := h
  exact ⟨h1, by show k < e.1; omega, (congrArg Prod.fst h4 : (e.2.2 k).1 = 10 + a)⟩
set_option maxHeartbeats 4000000 in
theorem x_tree {d : Nat} {P : xV → xS → Prop} (h0 : 0 < k) (h1 : e.1 = k + 1) (hc : e.2.2 k = (46, 0)) (h : ∀ r e' M', XSh6 k e' → e'.1 = k + 13 → e'.2.1 = e.2.1 + 3364 → (∀ j, j < k → e'.2.2 j = e.2.2 j) → (∀ j, j < k → M' j = M j) → P r (yS e' M')) : xcall xft xNf xmt xtr (d + 1) 47 [.inr (some k)] (yS e M) P := by
  have b0 : bld 46 k [] e e M M := bld_0 h0 (by omega) hc
  refine xcall_of ?_
  refine xGo.in ?_
  refine And.intro (Nat.le_of_ble_eq_true rfl) ?_
  refine And.intro (gob (bld_ob (a := 36) b0) (Or.inl rfl)) ?_
  obtain ⟨N1, hN1⟩ : ∃ z : xM, z = xup M k ((0 : Nat) : Int) 0 := ⟨_, rfl⟩
  refine xgo_st (e := e) (M := N1) (by subst hN1; rfl) ?_
  have b1 : bld 46 k [] e e M N1 := by rw [hN1]; exact bld_f b0
  refine And.intro (bld_ob (a := 36) b1) ?_
  obtain ⟨N2, hN2⟩ : ∃ z : xM, z = xup N1 k ((1 : Nat) : Int) 0 := ⟨_, rfl⟩
  refine xgo_st (e := e) (M := N2) (by subst hN2; rfl) ?_
  have b2 : bld 46 k [] e e M N2 := by rw [hN2]; exact bld_f b1
  refine And.intro (bld_ob (a := 36) b2) ?_
  obtain ⟨N3, hN3⟩ : ∃ z : xM, z = xup N2 k ((2 : Nat) : Int) 0 := ⟨_, rfl⟩
  refine xgo_st (e := e) (M := N3) (by subst hN3; rfl) ?_
  have b3 : bld 46 k [] e e M N3 := by rw [hN3]; exact bld_f b2
  refine And.intro (bld_ob (a := 36) b3) ?_
  obtain ⟨N4, hN4⟩ : ∃ z : xM, z = xup N3 k ((3 : Nat) : Int) (-1) := ⟨_, rfl⟩
  refine xgo_st (e := e) (M := N4) (by subst hN4; rfl) ?_
  have b4 : bld 46 k [] e e M N4 := by rw [hN4]; exact bld_f b3
  refine And.intro (bld_ob (a := 36) b4) ?_
  obtain ⟨N5, hN5⟩ : ∃ z : xM, z = xup N4 k ((4 : Nat) : Int) 0 := ⟨_, rfl⟩
  refine xgo_st (e := e) (M := N5) (by subst hN5; rfl) ?_
  have b5 : bld 46 k [] e e M N5 := by rw [hN5]; exact bld_f b4
  have s1 := bld_a (t := 1) (n := 4) (b := 5) b5
  refine And.intro ⟨by decide, by decide⟩ ?_
  refine And.intro (gob (bld_ob (a := 36) s1.1) (Nat.lt_succ_self _)) ?_
  obtain ⟨e1, he1⟩ : ∃ z : yE, z = mkA e 1 4 := ⟨_, rfl⟩
  obtain ⟨A1, hA1⟩ : ∃ z : xM, z = mkM e N5 k 5 := ⟨_, rfl⟩
  refine xgo_st (e := e1) (M := A1) (by subst he1 hA1; rfl) ?_
  rw [← he1, ← hA1] at s1
  obtain ⟨c1, v1, w1, -, -, z1⟩ := s1
  have q1 : e1.1 = k + 2 := by rw [c1.2.1, h1]; rfl
  clear he1 hA1
  have s2 := bld_a (t := 1) (n := 360) (b := 6) c1
  refine And.intro ⟨by decide, by decide⟩ ?_
  refine And.intro (gob (bld_ob (a := 36) s2.1) (Nat.lt_succ_self _)) ?_
  obtain ⟨e2, he2⟩ : ∃ z : yE, z = mkA e1 1 360 := ⟨_, rfl⟩
  obtain ⟨A2, hA2⟩ : ∃ z : xM, z = mkM e1 A1 k 6 := ⟨_, rfl⟩
  refine xgo_st (e := e2) (M := A2) (by subst he2 hA2; rfl) ?_
  rw [← he2, ← hA2] at s2
  obtain ⟨c2, v2, w2, -, -, z2⟩ := s2
  have q2 : e2.1 = k + 3 := by rw [c2.2.1, h1]; rfl
  clear he2 hA2
  have s3 := bld_a (t := 1) (n := 120) (b := 7) c2
  refine And.intro ⟨by decide, by decide⟩ ?_
  refine And.intro (gob (bld_ob (a := 36) s3.1) (Nat.lt_succ_self _)) ?_
  obtain ⟨e3, he3⟩ : ∃ z : yE, z = mkA e2 1 120 := ⟨_, rfl⟩
  obtain ⟨A3, hA3⟩ : ∃ z : xM, z = mkM e2 A2 k 7 := ⟨_, rfl⟩
  refine xgo_st (e := e3) (M := A3) (by subst he3 hA3; rfl) ?_
  rw [← he3, ← hA3] at s3
  obtain ⟨c3, v3, w3, -, -, z3⟩ := s3
  have q3 : e3.1 = k + 4 := by rw [c3.2.1, h1]; rfl
  clear he3 hA3
  have s4 := bld_a (t := 1) (n := 120) (b := 8) c3
  refine And.intro ⟨by decide, by decide⟩ ?_
  refine And.intro (gob (bld_ob (a := 36) s4.1) (Nat.lt_succ_self _)) ?_
  obtain ⟨e4, he4⟩ : ∃ z : yE, z = mkA e3 1 120 := ⟨_, rfl⟩
  obtain ⟨A4, hA4⟩ : ∃ z : xM, z = mkM e3 A3 k 8 := ⟨_, rfl⟩
  refine xgo_st (e := e4) (M := A4) (by subst he4 hA4; rfl) ?_
  rw [← he4, ← hA4] at s4
  obtain ⟨c4, v4, w4, -, -, z4⟩ := s4
  have q4 : e4.1 = k + 5 := by rw [c4.2.1, h1]; rfl
  clear he4 hA4
  have s5 := bld_a (t := 1) (n := 120) (b := 9) c4
  refine And.intro ⟨by decide, by decide⟩ ?_
  refine And.intro (gob (bld_ob (a := 36) s5.1) (Nat.lt_succ_self _)) ?_
  obtain ⟨e5, he5⟩ : ∃ z : yE, z = mkA e4 1 120 := ⟨_, rfl⟩
  obtain ⟨A5, hA5⟩ : ∃ z : xM, z = mkM e4 A4 k 9 := ⟨_, rfl⟩
  refine xgo_st (e := e5) (M := A5) (by subst he5 hA5; rfl) ?_
  rw [← he5, ← hA5] at s5
  obtain ⟨c5, v5, w5, -, -, z5⟩ := s5
  have q5 : e5.1 = k + 6 := by rw [c5.2.1, h1]; rfl
  clear he5 hA5
  have s6 := bld_a (t := 1) (n := 120) (b := 10) c5
  refine And.intro ⟨by decide, by decide⟩ ?_
  refine And.intro (gob (bld_ob (a := 36) s6.1) (Nat.lt_succ_self _)) ?_
  obtain ⟨e6, he6⟩ : ∃ z : yE, z = mkA e5 1 120 := ⟨_, rfl⟩
  obtain ⟨A6, hA6⟩ : ∃ z : xM, z = mkM e5 A5 k 10 := ⟨_, rfl⟩
  refine xgo_st (e := e6) (M := A6) (by subst he6 hA6; rfl) ?_
  rw [← he6, ← hA6] at s6
  obtain ⟨c6, v6, w6, -, -, z6⟩ := s6
  have q6 : e6.1 = k + 7 := by rw [c6.2.1, h1]; rfl
  clear he6 hA6
  have s7 := bld_a (t := 1) (n := 120) (b := 11) c6
  refine And.intro ⟨by decide, by decide⟩ ?_
  refine And.intro (gob (bld_ob (a := 36) s7.1) (Nat.lt_succ_self _)) ?_
  obtain ⟨e7, he7⟩ : ∃ z : yE, z = mkA e6 1 120 := ⟨_, rfl⟩
  obtain ⟨A7, hA7⟩ : ∃ z : xM, z = mkM e6 A6 k 11 := ⟨_, rfl⟩
  refine xgo_st (e := e7) (M := A7) (by subst he7 hA7; rfl) ?_
  rw [← he7, ← hA7] at s7
  obtain ⟨c7, v7, w7, -, -, z7⟩ := s7
  have q7 : e7.1 = k + 8 := by rw [c7.2.1, h1]; rfl
  clear he7 hA7
  have s8 := bld_a (t := 1) (n := 120) (b := 12) c7
  refine And.intro ⟨by decide, by decide⟩ ?_
  refine And.intro (gob (bld_ob (a := 36) s8.1) (Nat.lt_succ_self _)) ?_
  obtain ⟨e8, he8⟩ : ∃ z : yE, z = mkA e7 1 120 := ⟨_, rfl⟩
  obtain ⟨A8, hA8⟩ : ∃ z : xM, z = mkM e7 A7 k 12 := ⟨_, rfl⟩
  refine xgo_st (e := e8) (M := A8) (by subst he8 hA8; rfl) ?_
  rw [← he8, ← hA8] at s8
  obtain ⟨c8, v8, w8, -, -, z8⟩ := s8
  have q8 : e8.1 = k + 9 := by rw [c8.2.1, h1]; rfl
  clear he8 hA8
  have s9 := bld_a (t := 1) (n := 120) (b := 13) c8
  refine And.intro ⟨by decide, by decide⟩ ?_
  refine And.intro (gob (bld_ob (a := 36) s9.1) (Nat.lt_succ_self _)) ?_
  obtain ⟨e9, he9⟩ : ∃ z : yE, z = mkA e8 1 120 := ⟨_, rfl⟩
  obtain ⟨A9, hA9⟩ : ∃ z : xM, z = mkM e8 A8 k 13 := ⟨_, rfl⟩
  refine xgo_st (e := e9) (M := A9) (by subst he9 hA9; rfl) ?_
  rw [← he9, ← hA9] at s9
  obtain ⟨c9, v9, w9, -, -, z9⟩ := s9
  have q9 : e9.1 = k + 10 := by rw [c9.2.1, h1]; rfl
  clear he9 hA9
  have s10 := bld_a (t := 2) (n := 120) (b := 14) c9
  refine And.intro ⟨by decide, by decide⟩ ?_
  refine And.intro (gob (bld_ob (a := 36) s10.1) (Nat.lt_succ_self _)) ?_
  obtain ⟨e10, he10⟩ : ∃ z : yE, z = mkA e9 2 120 := ⟨_, rfl⟩
  obtain ⟨A10, hA10⟩ : ∃ z : xM, z = mkM e9 A9 k 14 := ⟨_, rfl⟩
  refine xgo_st (e := e10) (M := A10) (by subst he10 hA10; rfl) ?_
  rw [← he10, ← hA10] at s10
  obtain ⟨c10, v10, w10, -, -, z10⟩ := s10
  have q10 : e10.1 = k + 11 := by rw [c10.2.1, h1]; rfl
  clear he10 hA10
  have s11 := bld_a (t := 1) (n := 120) (b := 15) c10
  refine And.intro ⟨by decide, by decide⟩ ?_
  refine And.intro (gob (bld_ob (a := 36) s11.1) (Nat.lt_succ_self _)) ?_
  obtain ⟨e11, he11⟩ : ∃ z : yE, z = mkA e10 1 120 := ⟨_, rfl⟩
  obtain ⟨A11, hA11⟩ : ∃ z : xM, z = mkM e10 A10 k 15 := ⟨_, rfl⟩
  refine xgo_st (e := e11) (M := A11) (by subst he11 hA11; rfl) ?_
  rw [← he11, ← hA11] at s11
  obtain ⟨c11, v11, w11, -, -, z11⟩ := s11
  have q11 : e11.1 = k + 12 := by rw [c11.2.1, h1]; rfl
  clear he11 hA11
  have s12 := bld_a (t := 1) (n := 1920) (b := 16) c11
  refine And.intro ⟨by decide, by decide⟩ ?_
  refine And.intro (gob (bld_ob (a := 36) s12.1) (Nat.lt_succ_self _)) ?_
  obtain ⟨e12, he12⟩ : ∃ z : yE, z = mkA e11 1 1920 := ⟨_, rfl⟩
  obtain ⟨A12, hA12⟩ : ∃ z : xM, z = mkM e11 A11 k 16 := ⟨_, rfl⟩
  refine xgo_st (e := e12) (M := A12) (by subst he12 hA12; rfl) ?_
  rw [← he12, ← hA12] at s12
  obtain ⟨c12, v12, w12, -, -, z12⟩ := s12
  have q12 : e12.1 = k + 13 := by rw [c12.2.1, h1]; rfl
  clear he12 hA12
  have hse : xseal xft xNf 6 k A12 := by
    intro j hj
    have hj : j < 17 := hj
    have hc : j = 0 ∨ j = 1 ∨ j = 2 ∨ j = 3 ∨ j = 4 ∨ j = 5 ∨ j = 6 ∨ j = 7 ∨ j = 8 ∨ j = 9 ∨ j = 10 ∨ j = 11 ∨ j = 12 ∨ j = 13 ∨ j = 14 ∨ j = 15 ∨ j = 16 := by omega
    rcases hc with y | y | y | y | y | y | y | y | y | y | y | y | y | y | y | y | y
    · subst y; exact ⟨fun u => absurd u (by decide), fun u => absurd u (by decide)⟩
    · subst y; exact ⟨fun u => absurd u (by decide), fun u => absurd u (by decide)⟩
    · subst y; exact ⟨fun u => absurd u (by decide), fun u => absurd u (by decide)⟩
    · subst y; exact ⟨fun u => absurd u (by decide), fun u => absurd u (by decide)⟩
    · subst y; exact ⟨fun u => absurd u (by decide), fun u => absurd u (by decide)⟩
    · subst y; refine ⟨fun _ => ?_, fun u => absurd u (by decide)⟩
      rw [w12 _ (by decide), w11 _ (by decide), w10 _ (by decide), w9 _ (by decide), w8 _ (by decide), w7 _ (by decide), w6 _ (by decide), w5 _ (by decide), w4 _ (by decide), w3 _ (by decide), w2 _ (by decide), v1, h1]; rfl
    · subst y; refine ⟨fun _ => ?_, fun u => absurd u (by decide)⟩
      rw [w12 _ (by decide), w11 _ (by decide), w10 _ (by decide), w9 _ (by decide), w8 _ (by decide), w7 _ (by decide), w6 _ (by decide), w5 _ (by decide), w4 _ (by decide), w3 _ (by decide), v2, q1]; rfl
    · subst y; refine ⟨fun _ => ?_, fun u => absurd u (by decide)⟩
      rw [w12 _ (by decide), w11 _ (by decide), w10 _ (by decide), w9 _ (by decide), w8 _ (by decide), w7 _ (by decide), w6 _ (by decide), w5 _ (by decide), w4 _ (by decide), v3, q2]; rfl
    · subst y; refine ⟨fun _ => ?_, fun u => absurd u (by decide)⟩
      rw [w12 _ (by decide), w11 _ (by decide), w10 _ (by decide), w9 _ (by decide), w8 _ (by decide), w7 _ (by decide), w6 _ (by decide), w5 _ (by decide), v4, q3]; rfl
    · subst y; refine ⟨fun _ => ?_, fun u => absurd u (by decide)⟩
      rw [w12 _ (by decide), w11 _ (by decide), w10 _ (by decide), w9 _ (by decide), w8 _ (by decide), w7 _ (by decide), w6 _ (by decide), v5, q4]; rfl
    · subst y; refine ⟨fun _ => ?_, fun u => absurd u (by decide)⟩
      rw [w12 _ (by decide), w11 _ (by decide), w10 _ (by decide), w9 _ (by decide), w8 _ (by decide), w7 _ (by decide), v6, q5]; rfl
    · subst y; refine ⟨fun _ => ?_, fun u => absurd u (by decide)⟩
      rw [w12 _ (by decide), w11 _ (by decide), w10 _ (by decide), w9 _ (by decide), w8 _ (by decide), v7, q6]; rfl
    · subst y; refine ⟨fun _ => ?_, fun u => absurd u (by decide)⟩
      rw [w12 _ (by decide), w11 _ (by decide), w10 _ (by decide), w9 _ (by decide), v8, q7]; rfl
    · subst y; refine ⟨fun _ => ?_, fun u => absurd u (by decide)⟩
      rw [w12 _ (by decide), w11 _ (by decide), w10 _ (by decide), v9, q8]; rfl
    · subst y; refine ⟨fun _ => ?_, fun u => absurd u (by decide)⟩
      rw [w12 _ (by decide), w11 _ (by decide), v10, q9]; rfl
    · subst y; refine ⟨fun _ => ?_, fun u => absurd u (by decide)⟩
      rw [w12 _ (by decide), v11, q10]; rfl
    · subst y; refine ⟨fun _ => ?_, fun u => absurd u (by decide)⟩
      rw [v12, q11]; rfl
  refine And.intro (gob (bld_ob (a := 36) c12) hse) ?_
  refine xgo_st (e := (e12.1, e12.2.1, xnew e12.2.2 k (16, 0))) (M := A12) rfl ?_
  obtain ⟨-, -, d3, d4, d5, d6⟩ := c12
  clear hse b0 b1 b2 b3 b4 b5 v1 w1 v2 w2 v3 w3 v4 w4 v5 w5 v6 w6 v7 w7 v8 w8 v9 w9 v10 w10 v11 w11 v12 w12 c1 c2 c3 c4 c5 c6 c7 c8 c9 c10 c11
  have zz : e12.2.1 = e.2.1 + 3364 := by rw [z12, z11, z10, z9, z8, z7, z6, z5, z4, z3, z2, z1]
  clear z1 z2 z3 z4 z5 z6 z7 z8 z9 z10 z11 z12 q1 q2 q3 q4 q5 q6 q7 q8 q9 q10 q11
  refine h _ _ _ ⟨h0, ?_, wnew_at, ?_, ?_, ?_, ?_, ?_, ?_, ?_, ?_, ?_, ?_, ?_, ?_⟩ (by show e12.1 = _; rw [q12]) ?_ (fun j hj => ?_) (fun j hj => d5 j (by omega) (by omega))
  · show k + 12 < e12.1; omega
  · show xnew e12.2.2 k (16, 0) (k + 1) = _; rw [wnew_ne (by omega), show k + 1 = e.1 + 0 by omega]; exact d6 0 _ rfl
  · show xnew e12.2.2 k (16, 0) (k + 2) = _; rw [wnew_ne (by omega), show k + 2 = e.1 + 1 by omega]; exact d6 1 _ rfl
  · show xnew e12.2.2 k (16, 0) (k + 3) = _; rw [wnew_ne (by omega), show k + 3 = e.1 + 2 by omega]; exact d6 2 _ rfl
  · show xnew e12.2.2 k (16, 0) (k + 4) = _; rw [wnew_ne (by omega), show k + 4 = e.1 + 3 by omega]; exact d6 3 _ rfl
  · show xnew e12.2.2 k (16, 0) (k + 5) = _; rw [wnew_ne (by omega), show k + 5 = e.1 + 4 by omega]; exact d6 4 _ rfl
  · show xnew e12.2.2 k (16, 0) (k + 6) = _; rw [wnew_ne (by omega), show k + 6 = e.1 + 5 by omega]; exact d6 5 _ rfl
  · show xnew e12.2.2 k (16, 0) (k + 7) = _; rw [wnew_ne (by omega), show k + 7 = e.1 + 6 by omega]; exact d6 6 _ rfl
  · show xnew e12.2.2 k (16, 0) (k + 8) = _; rw [wnew_ne (by omega), show k + 8 = e.1 + 7 by omega]; exact d6 7 _ rfl
  · show xnew e12.2.2 k (16, 0) (k + 9) = _; rw [wnew_ne (by omega), show k + 9 = e.1 + 8 by omega]; exact d6 8 _ rfl
  · show xnew e12.2.2 k (16, 0) (k + 10) = _; rw [wnew_ne (by omega), show k + 10 = e.1 + 9 by omega]; exact d6 9 _ rfl
  · show xnew e12.2.2 k (16, 0) (k + 11) = _; rw [wnew_ne (by omega), show k + 11 = e.1 + 10 by omega]; exact d6 10 _ rfl
  · show xnew e12.2.2 k (16, 0) (k + 12) = _; rw [wnew_ne (by omega), show k + 12 = e.1 + 11 by omega]; exact d6 11 _ rfl
  · exact zz
  · show xnew e12.2.2 k (16, 0) j = _; rw [wnew_ne (by omega)]; exact d4 j (by omega)
end CTO
