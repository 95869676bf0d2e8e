/-! ===== the class: the builder's heap ===== -/
/-- an array of Cells -/
def isC (e : yE) (j : Nat) : Prop := (e.2.2 j).1 = 1 ∧ (e.2.2 j).2 % 256 = 0 ∧ 0 < (e.2.2 j).2 ∧ (j < 59 ∨ 99 < j)
theorem nC_a {e : yE} {a t n : Nat} (h : yA e a t n) (hn : n % 256 ≠ 0) : ¬ isC e a := by
  intro z
  have := z.2.1
  rw [h.2.2.1] at this
  exact hn this
theorem nC_o {e : yE} {a t : Nat} (h : e.2.2 a = (t, 0)) : ¬ isC e a := by
  intro z
  have := z.2.2.1
  rw [h] at this
  exact absurd this (Nat.lt_irrefl 0)
theorem nC_r {e : yE} {a : Nat} (h : 59 ≤ a ∧ a ≤ 99) : ¬ isC e a := fun z => by have := z.2.2.2; omega
theorem nC_le {e e' : yE} {j : Nat} (h : yLe e e') (hj : j < e.1) (hn : ¬ isC e j) : ¬ isC e' j := by
  unfold isC at *
  rw [h.2 j hj]
  exact hn
/-- what states and lists hold -/
def vS (M : xM) (j i : Int) : Int := M (M 30 j).toNat i
def vL (M : xM) (j i : Int) : Int := M (M 34 j).toNat i
/-- the two Cells, their arrays apart; cs, cl: how many places -/
def hpC (e : yE) (M : xM) (cs cl : Nat) : Prop := ∃ s1 s2 s3 l1 l2 l3, cel e M 30 cs s1 s2 s3 ∧ cel e M 34 cl l1 l2 l3 ∧ ((s1 ≠ l1 ∧ s1 ≠ l2 ∧ s1 ≠ l3) ∧ (s2 ≠ l1 ∧ s2 ≠ l2 ∧ s2 ≠ l3) ∧ (s3 ≠ l1 ∧ s3 ≠ l2 ∧ s3 ≠ l3)) ∧ (cs % 256 = 0 ∧ cl % 256 = 0) ∧ ((s1 < 59 ∨ 99 < s1) ∧ (s2 < 59 ∨ 99 < s2) ∧ (s3 < 59 ∨ 99 < s3)) ∧ ((l1 < 59 ∨ 99 < l1) ∧ (l2 < 59 ∨ 99 < l2) ∧ (l3 < 59 ∨ 99 < l3)) ∧ 99 < e.1
/-- all that is neither of the two Cells nor an array of theirs stays -/
def frC (e : yE) (M M' : xM) : Prop := ∀ j, j < e.1 → j ≠ 30 → j ≠ 34 → ¬ isC e j → M' j = M j
/-- how much room the two Cells' arrays take -/
def rmC (e e' : yE) (cs cl cs' cl' : Nat) : Prop := cs ≤ cs' ∧ cl ≤ cl' ∧ e'.2.1 + 6 * (cs + cl) = e.2.1 + 6 * (cs' + cl') ∧ e.1 ≤ e'.1 ∧ e'.1 + cs + cl ≤ e.1 + cs' + cl'
theorem rmC_refl {e : yE} {cs cl : Nat} : rmC e e cs cl cs cl := ⟨Nat.le_refl _, Nat.le_refl _, rfl, Nat.le_refl _, Nat.le_refl _⟩
theorem rmC_trans {e e1 e2 : yE} {a b a1 b1 a2 b2 : Nat} (h : rmC e e1 a b a1 b1) (h2 : rmC e1 e2 a1 b1 a2 b2) : rmC e e2 a b a2 b2 := by
  obtain ⟨x1, x2, x3, x4, x5⟩ := h
  obtain ⟨y1, y2, y3, y4, y5⟩ := h2
  exact ⟨by omega, by omega, by omega, by omega, by omega⟩
theorem frC_refl {e : yE} {M : xM} : frC e M M := fun _ _ _ _ _ => rfl
theorem frC_trans {e e1 : yE} {M M1 M2 : xM} (hl : yLe e e1) (h : frC e M M1) (h2 : frC e1 M1 M2) : frC e M M2 := fun j h1 h3 h4 h5 => (h2 j (Nat.lt_of_lt_of_le h1 hl.1) h3 h4 (nC_le hl h1 h5)).trans (h j h1 h3 h4 h5)
/-- lists only grow; states stay -/
def grL (M M' : xM) : Prop := M 34 0 ≤ M' 34 0 ∧ (∀ j i, (j = 1 ∨ j = 2 ∨ j = 3) → 0 ≤ i → i < M 34 0 → vL M' j i = vL M j i) ∧ M 30 0 ≤ M' 30 0 ∧ (∀ j i, (j = 1 ∨ j = 2 ∨ j = 3) → 0 ≤ i → i < M 30 0 → vS M' j i = vS M j i)
theorem grL_refl {M : xM} : grL M M := ⟨Int.le_refl _, fun _ _ _ _ _ => rfl, Int.le_refl _, fun _ _ _ _ _ => rfl⟩
theorem grL_trans {M M1 M2 : xM} (h : grL M M1) (h2 : grL M1 M2) : grL M M2 := by
  obtain ⟨a, b, c, d⟩ := h
  obtain ⟨a2, b2, c2, d2⟩ := h2
  exact ⟨by omega, fun j i hj h0 h1 => (b2 j i hj h0 (by omega)).trans (b j i hj h0 h1), by omega, fun j i hj h0 h1 => (d2 j i hj h0 (by omega)).trans (d j i hj h0 h1)⟩
theorem mod2 {c : Nat} (h : c % 256 = 0) : (2 * c) % 256 = 0 := by omega
theorem rmC_L {e e' : yE} {cs cl cl' : Nat} (h1 : e'.1 = e.1 + 3) (h2 : e'.2.1 = e.2.1 + 6 * cl) (h3 : cl' = 2 * cl) (h4 : 256 ≤ cl) : rmC e e' cs cl cs cl' := ⟨by omega, by omega, by omega, by omega, by omega⟩
theorem rmC_S {e e' : yE} {cs cl cs' : Nat} (h1 : e'.1 = e.1 + 3) (h2 : e'.2.1 = e.2.1 + 6 * cs) (h3 : cs' = 2 * cs) (h4 : 256 ≤ cs) : rmC e e' cs cl cs' cl := ⟨by omega, by omega, by omega, by omega, by omega⟩
theorem apart {n p1 p2 p3 q1 q2 q3 : Nat} (h : (p1 = q1 ∧ p2 = q2 ∧ p3 = q3) ∨ (n ≤ p1 ∧ n ≤ p2 ∧ n ≤ p3)) : ∀ s, s < n → s ≠ q1 → s ≠ q2 → s ≠ q3 → s ≠ p1 ∧ s ≠ p2 ∧ s ≠ p3 := by
  intro s hs x y z
  rcases h with ⟨rfl, rfl, rfl⟩ | ⟨u, v, w⟩
  · exact ⟨x, y, z⟩
  · exact ⟨Nat.ne_of_lt (Nat.lt_of_lt_of_le hs u), Nat.ne_of_lt (Nat.lt_of_lt_of_le hs v), Nat.ne_of_lt (Nat.lt_of_lt_of_le hs w)⟩
theorem far {n p1 p2 p3 q1 q2 q3 : Nat} (h : (p1 = q1 ∧ p2 = q2 ∧ p3 = q3) ∨ (n ≤ p1 ∧ n ≤ p2 ∧ n ≤ p3)) (h99 : 99 < n) (hl : (q1 < 59 ∨ 99 < q1) ∧ (q2 < 59 ∨ 99 < q2) ∧ (q3 < 59 ∨ 99 < q3)) : (p1 < 59 ∨ 99 < p1) ∧ (p2 < 59 ∨ 99 < p2) ∧ (p3 < 59 ∨ 99 < p3) := by
  rcases h with ⟨rfl, rfl, rfl⟩ | ⟨u, v, w⟩
  · exact hl
  · exact ⟨Or.inr (Nat.lt_of_lt_of_le h99 u), Or.inr (Nat.lt_of_lt_of_le h99 v), Or.inr (Nat.lt_of_lt_of_le h99 w)⟩
section CHP
variable {e : yE} {d cs cl : Nat} {M : xM} {x1 x2 x3 : Int}
theorem s_addL {Q : Int → yE → xM → Prop} (hp : hpC e M cs cl) (hsz : M 34 0 < 10000000)
    (h : ∀ e' M' cl', hpC e' M' cs cl' → yLe e e' → rmC e e' cs cl cs cl' → (cl' = cl ∨ (M 34 0 = cl ∧ cl' = 2 * cl)) → frC e M M' → grL M M' → M' 34 0 = M 34 0 + 1 → M' 30 = M 30 → (vL M' 1 (M 34 0) = x1 ∧ vL M' 2 (M 34 0) = x2 ∧ vL M' 3 (M 34 0) = x3) → Q (M 34 0) e' M') : C_Ce_add e (d + 2) 34 x1 x2 x3 M Q := by
  obtain ⟨s1, s2, s3, l1, l2, l3, hS, hL, ⟨⟨a1, a2, a3⟩, ⟨b1, b2, b3⟩, ⟨c1, c2, c3⟩⟩, hm, hs, hl, h99⟩ := hp
  refine s_add hL h99 hsz ?_
  intro e' M' cl' p1 p2 p3 hL' hg hpq hsz' hold hnew
  obtain ⟨g1, g2, g3⟩ := hg
  have hS0 := hS
  obtain ⟨S1, ⟨r1, r2, r3⟩, ⟨A1, A2, A3⟩, S4, S5, S6⟩ := hS0
  have hL0 := hL
  obtain ⟨L1, ⟨t1, t2, t3⟩, ⟨B1, B2, B3⟩, L4, L5, L6⟩ := hL0
  obtain ⟨L1', ⟨t1', t2', t3'⟩, ⟨B1', B2', B3'⟩, L4', L5', L6'⟩ := hL'
  have n34 : ∀ q c, yA e q 1 c → q ≠ 34 := by rintro q c hq rfl; have := hq.2.2.1; have := L1.2.2; simp_all
  have n30 : ∀ q c, yA e q 1 c → q ≠ 30 := by rintro q c hq rfl; have := hq.2.2.1; have := S1.2.2; simp_all
  have m30 : M' 30 = M 30 := g2 30 (Nat.lt_of_lt_of_le (by decide : 30 < 100) h99) (by decide) (Ne.symm (n30 _ _ B1)) (Ne.symm (n30 _ _ B2)) (Ne.symm (n30 _ _ B3))
  have ms1 : M' s1 = M s1 := g2 s1 A1.2.1 (n34 _ _ A1) a1 a2 a3
  have ms2 : M' s2 = M s2 := g2 s2 A2.2.1 (n34 _ _ A2) b1 b2 b3
  have ms3 : M' s3 = M s3 := g2 s3 A3.2.1 (n34 _ _ A3) c1 c2 c3
  have hlt1 := A1.2.1
  have hlt2 := A2.2.1
  have hlt3 := A3.2.1
  have hcl' : cl' % 256 = 0 := by
    rcases g3 with ⟨-, z⟩ | ⟨-, -, -, z⟩
    · rw [z]; exact hm.2
    · rw [z]; exact mod2 hm.2
  obtain ⟨i1, i2, i3⟩ := apart hpq s1 hlt1 a1 a2 a3
  obtain ⟨i4, i5, i6⟩ := apart hpq s2 hlt2 b1 b2 b3
  obtain ⟨i7, i8, i9⟩ := apart hpq s3 hlt3 c1 c2 c3
  have v1 : ∀ N : xM, ∀ q : Nat, N 34 1 = (q : Int) → ∀ i, vL N 1 i = N q i := fun N q hq i => by unfold vL; rw [hq]; rfl
  have v2 : ∀ N : xM, ∀ q : Nat, N 34 2 = (q : Int) → ∀ i, vL N 2 i = N q i := fun N q hq i => by unfold vL; rw [hq]; rfl
  have v3 : ∀ N : xM, ∀ q : Nat, N 34 3 = (q : Int) → ∀ i, vL N 3 i = N q i := fun N q hq i => by unfold vL; rw [hq]; rfl
  refine h e' M' cl' ⟨s1, s2, s3, p1, p2, p3, ⟨S1.le g1, by rw [m30]; exact ⟨r1, r2, r3⟩, ⟨A1.le g1, A2.le g1, A3.le g1⟩, S4, by rw [m30]; exact S5, S6⟩, ⟨L1', ⟨t1', t2', t3'⟩, ⟨B1', B2', B3'⟩, L4', L5', L6'⟩, ⟨⟨i1, i2, i3⟩, ⟨i4, i5, i6⟩, ⟨i7, i8, i9⟩⟩, ⟨hm.1, hcl'⟩, hs, far hpq h99 hl, Nat.lt_of_lt_of_le h99 g1.1⟩ g1 ?_ ?_ ?_ ?_ hsz' m30 ?_
  · rcases g3 with ⟨z1, z2⟩ | ⟨-, z1, z2, z3⟩
    · rw [z1, z2]; exact rmC_refl
    · exact rmC_L z1 z2 z3 L6.1
  · rcases g3 with ⟨z1, z2⟩ | ⟨z0, z1, z2, z3⟩
    · exact Or.inl z2
    · exact Or.inr ⟨z0, z3⟩
  · intro j hj j30 j34 hnc
    have nq : ∀ q, yA e q 1 cl → (q < 59 ∨ 99 < q) → j ≠ q := by
      rintro q hq hq2 rfl
      exact hnc ⟨by rw [hq.2.2.1], by rw [hq.2.2.1]; exact hm.2, by rw [hq.2.2.1]; exact Nat.lt_of_lt_of_le (by decide : 0 < 256) L6.1, hq2⟩
    exact g2 j hj j34 (nq _ B1 hl.1) (nq _ B2 hl.2.1) (nq _ B3 hl.2.2)
  · refine ⟨by rw [hsz']; exact Int.le_of_lt (Int.lt_succ _), fun j i hj h0 h1 => ?_, by rw [m30]; exact Int.le_refl _, fun j i hj h0 h1 => ?_⟩
    · obtain ⟨w1, w2, w3⟩ := hold i h0 h1
      rcases hj with rfl | rfl | rfl
      · rw [v1 _ _ t1', v1 _ _ t1, w1]
      · rw [v2 _ _ t2', v2 _ _ t2, w2]
      · rw [v3 _ _ t3', v3 _ _ t3, w3]
    · unfold vS
      rw [m30]
      rcases hj with rfl | rfl | rfl
      · rw [r1]; show M' s1 i = M s1 i; rw [ms1]
      · rw [r2]; show M' s2 i = M s2 i; rw [ms2]
      · rw [r3]; show M' s3 i = M s3 i; rw [ms3]
  · obtain ⟨w1, w2, w3⟩ := hnew
    rw [v1 _ _ t1', v2 _ _ t2', v3 _ _ t3']
    exact ⟨w1, w2, w3⟩
theorem s_addS {Q : Int → yE → xM → Prop} (hp : hpC e M cs cl) (hsz : M 30 0 < 10000000)
    (h : ∀ e' M' cs', hpC e' M' cs' cl → yLe e e' → rmC e e' cs cl cs' cl → (cs' = cs ∨ (M 30 0 = cs ∧ cs' = 2 * cs)) → frC e M M' → grL M M' → M' 30 0 = M 30 0 + 1 → M' 34 = M 34 → (vS M' 1 (M 30 0) = x1 ∧ vS M' 2 (M 30 0) = x2 ∧ vS M' 3 (M 30 0) = x3) → Q (M 30 0) e' M') : C_Ce_add e (d + 2) 30 x1 x2 x3 M Q := by
  obtain ⟨s1, s2, s3, l1, l2, l3, hS, hL, ⟨⟨a1, a2, a3⟩, ⟨b1, b2, b3⟩, ⟨c1, c2, c3⟩⟩, hm, hs, hl, h99⟩ := hp
  refine s_add hS h99 hsz ?_
  intro e' M' cs' p1 p2 p3 hS' hg hpq hsz' hold hnew
  obtain ⟨g1, g2, g3⟩ := hg
  have hS0 := hS
  obtain ⟨S1, ⟨r1, r2, r3⟩, ⟨A1, A2, A3⟩, S4, S5, S6⟩ := hS0
  have hL0 := hL
  obtain ⟨L1, ⟨t1, t2, t3⟩, ⟨B1, B2, B3⟩, L4, L5, L6⟩ := hL0
  obtain ⟨S1', ⟨r1', r2', r3'⟩, ⟨A1', A2', A3'⟩, S4', S5', S6'⟩ := hS'
  have n34 : ∀ q c, yA e q 1 c → q ≠ 34 := by rintro q c hq rfl; have := hq.2.2.1; have := L1.2.2; simp_all
  have n30 : ∀ q c, yA e q 1 c → q ≠ 30 := by rintro q c hq rfl; have := hq.2.2.1; have := S1.2.2; simp_all
  have m34 : M' 34 = M 34 := g2 34 (Nat.lt_of_lt_of_le (by decide : 34 < 100) h99) (by decide) (Ne.symm (n34 _ _ A1)) (Ne.symm (n34 _ _ A2)) (Ne.symm (n34 _ _ A3))
  have ms1 : M' l1 = M l1 := g2 l1 B1.2.1 (n30 _ _ B1) (Ne.symm a1) (Ne.symm b1) (Ne.symm c1)
  have ms2 : M' l2 = M l2 := g2 l2 B2.2.1 (n30 _ _ B2) (Ne.symm a2) (Ne.symm b2) (Ne.symm c2)
  have ms3 : M' l3 = M l3 := g2 l3 B3.2.1 (n30 _ _ B3) (Ne.symm a3) (Ne.symm b3) (Ne.symm c3)
  have hlt1 := B1.2.1
  have hlt2 := B2.2.1
  have hlt3 := B3.2.1
  have hcs' : cs' % 256 = 0 := by
    rcases g3 with ⟨-, z⟩ | ⟨-, -, -, z⟩
    · rw [z]; exact hm.1
    · rw [z]; exact mod2 hm.1
  obtain ⟨i1, i2, i3⟩ := apart hpq l1 hlt1 (Ne.symm a1) (Ne.symm b1) (Ne.symm c1)
  obtain ⟨i4, i5, i6⟩ := apart hpq l2 hlt2 (Ne.symm a2) (Ne.symm b2) (Ne.symm c2)
  obtain ⟨i7, i8, i9⟩ := apart hpq l3 hlt3 (Ne.symm a3) (Ne.symm b3) (Ne.symm c3)
  have v1 : ∀ N : xM, ∀ q : Nat, N 30 1 = (q : Int) → ∀ i, vS N 1 i = N q i := fun N q hq i => by unfold vS; rw [hq]; rfl
  have v2 : ∀ N : xM, ∀ q : Nat, N 30 2 = (q : Int) → ∀ i, vS N 2 i = N q i := fun N q hq i => by unfold vS; rw [hq]; rfl
  have v3 : ∀ N : xM, ∀ q : Nat, N 30 3 = (q : Int) → ∀ i, vS N 3 i = N q i := fun N q hq i => by unfold vS; rw [hq]; rfl
  refine h e' M' cs' ⟨p1, p2, p3, l1, l2, l3, ⟨S1', ⟨r1', r2', r3'⟩, ⟨A1', A2', A3'⟩, S4', S5', S6'⟩, ⟨L1.le g1, by rw [m34]; exact ⟨t1, t2, t3⟩, ⟨B1.le g1, B2.le g1, B3.le g1⟩, L4, by rw [m34]; exact L5, L6⟩, ⟨⟨Ne.symm i1, Ne.symm i4, Ne.symm i7⟩, ⟨Ne.symm i2, Ne.symm i5, Ne.symm i8⟩, ⟨Ne.symm i3, Ne.symm i6, Ne.symm i9⟩⟩, ⟨hcs', hm.2⟩, far hpq h99 hs, hl, Nat.lt_of_lt_of_le h99 g1.1⟩ g1 ?_ ?_ ?_ ?_ hsz' m34 ?_
  · rcases g3 with ⟨z1, z2⟩ | ⟨-, z1, z2, z3⟩
    · rw [z1, z2]; exact rmC_refl
    · exact rmC_S z1 z2 z3 S6.1
  · rcases g3 with ⟨z1, z2⟩ | ⟨z0, z1, z2, z3⟩
    · exact Or.inl z2
    · exact Or.inr ⟨z0, z3⟩
  · intro j hj j30 j34 hnc
    have nq : ∀ q, yA e q 1 cs → (q < 59 ∨ 99 < q) → j ≠ q := by
      rintro q hq hq2 rfl
      exact hnc ⟨by rw [hq.2.2.1], by rw [hq.2.2.1]; exact hm.1, by rw [hq.2.2.1]; exact Nat.lt_of_lt_of_le (by decide : 0 < 256) S6.1, hq2⟩
    exact g2 j hj j30 (nq _ A1 hs.1) (nq _ A2 hs.2.1) (nq _ A3 hs.2.2)
  · refine ⟨by rw [m34]; exact Int.le_refl _, fun j i hj h0 h1 => ?_, by rw [hsz']; exact Int.le_of_lt (Int.lt_succ _), fun j i hj h0 h1 => ?_⟩
    · unfold vL
      rw [m34]
      rcases hj with rfl | rfl | rfl
      · rw [t1]; show M' l1 i = M l1 i; rw [ms1]
      · rw [t2]; show M' l2 i = M l2 i; rw [ms2]
      · rw [t3]; show M' l3 i = M l3 i; rw [ms3]
    · obtain ⟨w1, w2, w3⟩ := hold i h0 h1
      rcases hj with rfl | rfl | rfl
      · rw [v1 _ _ r1', v1 _ _ r1, w1]
      · rw [v2 _ _ r2', v2 _ _ r2, w2]
      · rw [v3 _ _ r3', v3 _ _ r3, w3]
  · obtain ⟨w1, w2, w3⟩ := hnew
    rw [v1 _ _ r1', v2 _ _ r2', v3 _ _ r3']
    exact ⟨w1, w2, w3⟩
end CHP
