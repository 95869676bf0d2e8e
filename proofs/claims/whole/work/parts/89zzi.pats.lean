/-! ===== types of names ===== -/
section PTY
variable {D D' : xM}
theorem tyN_fuel (hw : wfP D) (ht : wfT D) : ∀ (n k : Nat) (p a : Int), isP D p → D 72 p ≤ (n : Int) → D 72 p ≤ (k : Int) → tyN D n p a = tyN D k p a := by
  intro n
  induction n with
  | zero => intro k p a hp h; have := (hw.2 p hp).2.1; omega
  | succ n ih =>
    intro k p a hp h1 h2
    obtain ⟨k, rfl⟩ : ∃ j, k = j + 1 := ⟨k - 1, by have := (hw.2 p hp).2.1; omega⟩
    obtain ⟨w1, w2, w3, w4, w5, w6, w7, w8, w9⟩ := hw.2 p hp
    unfold tyN
    by_cases z0 : D 68 p = 0
    · rw [if_pos z0, if_pos z0]
    · rw [if_neg z0, if_neg z0]
      by_cases z1 : D 68 p = 1
      · rw [if_pos z1, if_pos z1]
      · rw [if_neg z1, if_neg z1]
        by_cases z3 : D 68 p = 3
        · obtain ⟨-, b2, -, -, b5⟩ := w8 z3
          rw [if_pos z3, if_pos z3, ih k (prt D p 0) a b2 (by omega) (by omega)]
        · rw [if_neg z3, if_neg z3]
          by_cases z4 : D 68 p = 4
          · obtain ⟨b1, b2⟩ := w9 z4
            have q0 := b1 0 (by omega) (by omega)
            have q1 := (hw.2 _ (b1 1 (by omega) (by omega)).1).2.1
            rw [if_pos z4, if_pos z4, ih k (prt D p 0) a q0.1 (by omega) (by omega)]
          · rw [if_neg z4, if_neg z4]
            have z2 : D 68 p = 2 := by omega
            by_cases c0 : 0 < pct D p ∧ xand32 (xshr32 (D 73 (prt D p 0)) a) 1 = 1
            · obtain ⟨p1, p2⟩ := prt_w (j := 0) hw ht hp z2 (by omega) c0.1
              rw [if_pos c0, if_pos c0, ih k (prt D p 0) a p1 (by omega) (by omega)]
            · rw [if_neg c0, if_neg c0]
              by_cases c1 : 1 < pct D p ∧ xand32 (xshr32 (D 73 (prt D p 1)) a) 1 = 1
              · obtain ⟨p1, p2⟩ := prt_w (j := 1) hw ht hp z2 (by omega) c1.1
                rw [if_pos c1, if_pos c1, ih k (prt D p 1) a p1 (by omega) (by omega)]
              · rw [if_neg c1, if_neg c1]
                by_cases c2 : 2 < pct D p ∧ xand32 (xshr32 (D 73 (prt D p 2)) a) 1 = 1
                · obtain ⟨p1, p2⟩ := prt_w (j := 2) hw ht hp z2 (by omega) c2.1
                  rw [if_pos c2, if_pos c2, ih k (prt D p 2) a p1 (by omega) (by omega)]
                · rw [if_neg c2, if_neg c2]
theorem tyN_c {m : Int} (hw : wfP D) (ht : wfT D) (h : cng D D' m) : ∀ (n : Nat) (p a : Int), isP D p → tyN D' n p a = tyN D n p a := by
  intro n
  induction n with
  | zero => intro p a _; rfl
  | succ n ih =>
    intro p a hp
    obtain ⟨w1, w2, w3, w4, w5, w6, w7, w8, w9⟩ := hw.2 p hp
    obtain ⟨g1, g2, g3, -, g5, g6⟩ := h.2.1 p hp
    have epct : pct D' p = pct D p := by unfold pct; rw [h.2.2.1.2.1, g2, g3]
    have e0 : prt D' p 0 = prt D p 0 := g6 0 (by omega) (by omega)
    have e1 : prt D' p 1 = prt D p 1 := g6 1 (by omega) (by omega)
    have e2 : prt D' p 2 = prt D p 2 := g6 2 (by omega) (by omega)
    unfold tyN
    rw [g1, g2, g3, epct, e0, e1, e2]
    by_cases z0 : D 68 p = 0
    · rw [if_pos z0, if_pos z0]
    · rw [if_neg z0, if_neg z0]
      by_cases z1 : D 68 p = 1
      · rw [if_pos z1, if_pos z1]
      · rw [if_neg z1, if_neg z1]
        by_cases z3 : D 68 p = 3
        · rw [if_pos z3, if_pos z3, ih _ a (w8 z3).2.1]
        · rw [if_neg z3, if_neg z3]
          by_cases z4 : D 68 p = 4
          · rw [if_pos z4, if_pos z4, ih _ a ((w9 z4).1 0 (by omega) (by omega)).1]
          · rw [if_neg z4, if_neg z4]
            have z2 : D 68 p = 2 := by omega
            have hP : ∀ j, 0 ≤ j → j < pct D p → isP D (prt D p j) := fun j j0 j1 => ((w7 z2).2.2.1 j j0 j1).1
            have n0 : (0 < pct D p ∧ xand32 (xshr32 (D' 73 (prt D p 0)) a) 1 = 1) ↔ (0 < pct D p ∧ xand32 (xshr32 (D 73 (prt D p 0)) a) 1 = 1) := ⟨fun y => ⟨y.1, (nmb_c h (hP 0 (by omega) y.1)).mp y.2⟩, fun y => ⟨y.1, (nmb_c h (hP 0 (by omega) y.1)).mpr y.2⟩⟩
            have n1 : (1 < pct D p ∧ xand32 (xshr32 (D' 73 (prt D p 1)) a) 1 = 1) ↔ (1 < pct D p ∧ xand32 (xshr32 (D 73 (prt D p 1)) a) 1 = 1) := ⟨fun y => ⟨y.1, (nmb_c h (hP 1 (by omega) y.1)).mp y.2⟩, fun y => ⟨y.1, (nmb_c h (hP 1 (by omega) y.1)).mpr y.2⟩⟩
            have n2 : (2 < pct D p ∧ xand32 (xshr32 (D' 73 (prt D p 2)) a) 1 = 1) ↔ (2 < pct D p ∧ xand32 (xshr32 (D 73 (prt D p 2)) a) 1 = 1) := ⟨fun y => ⟨y.1, (nmb_c h (hP 2 (by omega) y.1)).mp y.2⟩, fun y => ⟨y.1, (nmb_c h (hP 2 (by omega) y.1)).mpr y.2⟩⟩
            by_cases c0 : 0 < pct D p ∧ xand32 (xshr32 (D 73 (prt D p 0)) a) 1 = 1
            · rw [if_pos (n0.mpr c0), if_pos c0, ih _ a (hP 0 (by omega) c0.1)]
            · rw [if_neg (fun y => c0 (n0.mp y)), if_neg c0]
              by_cases c1 : 1 < pct D p ∧ xand32 (xshr32 (D 73 (prt D p 1)) a) 1 = 1
              · rw [if_pos (n1.mpr c1), if_pos c1, ih _ a (hP 1 (by omega) c1.1)]
              · rw [if_neg (fun y => c1 (n1.mp y)), if_neg c1]
                by_cases c2 : 2 < pct D p ∧ xand32 (xshr32 (D 73 (prt D p 2)) a) 1 = 1
                · rw [if_pos (n2.mpr c2), if_pos c2, ih _ a (hP 2 (by omega) c2.1)]
                · rw [if_neg (fun y => c2 (n2.mp y)), if_neg c2]
/-- the type of a name is that in the part that has it -/
theorem tyN_2 (hw : wfP D) (ht : wfT D) (hb : wfB D) {p a j : Int} (hp : isP D p) (h : D 68 p = 2) (a0 : 0 ≤ a) (a1 : a < 16) (j0 : 0 ≤ j) (j1 : j < pct D p) (hn : nmb D (prt D p j) a) : tyN D 41 p a = tyN D 41 (prt D p j) a := by
  have hpc := pct_rg hw ht hp h
  have hu := ((hb p hp a a0 a1).2.2.1 h).2
  obtain ⟨p1, p2⟩ := prt_w (j := j) hw ht hp h j0 j1
  have hw40 := (hw.2 p hp).2.1
  rw [tyN_fuel hw ht 41 40 (prt D p j) a p1 (by omega) (by omega)]
  show (if D 68 p = 0 then _ else _) = _
  rw [if_neg (by omega), if_neg (by omega), if_neg (by omega), if_neg (by omega)]
  have : j = 0 ∨ j = 1 ∨ j = 2 := by omega
  rcases this with z | z | z
  · subst z; rw [if_pos ⟨j1, hn⟩]
  · subst z
    rw [if_neg (fun y => hu 0 1 (by omega) (by omega) j1 ⟨y.2, hn⟩), if_pos ⟨j1, hn⟩]
  · subst z
    rw [if_neg (fun y => hu 0 2 (by omega) (by omega) j1 ⟨y.2, hn⟩), if_neg (fun y => hu 1 2 (by omega) (by omega) j1 ⟨y.2, hn⟩), if_pos ⟨j1, hn⟩]
theorem fkS_i {f a : Int → Int} {x : Int} : ∀ n : Nat, fkS f a x n = 0 → x = 0 ∧ ∀ j : Int, 0 ≤ j → j < n → f (a j) = 0 := by
  intro n
  induction n with
  | zero => intro h; exact ⟨h, fun j j0 j1 => by omega⟩
  | succ n ih =>
    intro h
    have h : (if fkS f a x n ≠ 0 then (1 : Int) else if f (a n) = 0 then 0 else 1) = 0 := h
    by_cases z : fkS f a x n ≠ 0
    · rw [if_pos z] at h; omega
    · rw [if_neg z] at h
      have z0 := Classical.not_not.mp z
      by_cases y : f (a n) = 0
      · obtain ⟨i1, i2⟩ := ih z0
        refine ⟨i1, fun j j0 j1 => ?_⟩
        by_cases w : j = n
        · rw [w]; exact y
        · exact i2 j j0 (by omega)
      · rw [if_neg y] at h; omega
theorem orS_w {f a : Int → Int} {x : Int} (hx : nmW x) : ∀ n : Nat, (∀ j : Int, 0 ≤ j → j < n → nmW (f (a j))) → nmW (orS f a x n) ∧ ∀ b, 0 ≤ b → b < 16 → (xand32 (xshr32 (orS f a x n) b) 1 = 1 ↔ xand32 (xshr32 x b) 1 = 1 ∨ ∃ j : Int, 0 ≤ j ∧ j < n ∧ xand32 (xshr32 (f (a j)) b) 1 = 1) := by
  intro n
  induction n with
  | zero => intro _; exact ⟨hx, fun b _ _ => ⟨fun y => Or.inl y, fun y => by rcases y with y | ⟨j, j0, j1, -⟩; exact y; omega⟩⟩
  | succ n ih =>
    intro h
    obtain ⟨i1, i2⟩ := ih (fun j j0 j1 => h j j0 (by omega))
    have hn := h n (by omega) (by omega)
    refine ⟨nmW_or i1 hn, fun b b0 b1 => ?_⟩
    show xand32 (xshr32 (xor32 (orS f a x n) (f (a n))) b) 1 = 1 ↔ _
    rw [bit_or i1 hn b0 b1, i2 b b0 b1]
    constructor
    · rintro ((y | ⟨j, j0, j1, y⟩) | y)
      · exact Or.inl y
      · exact Or.inr ⟨j, j0, by omega, y⟩
      · exact Or.inr ⟨n, by omega, by omega, y⟩
    · rintro (y | ⟨j, j0, j1, y⟩)
      · exact Or.inl (Or.inl y)
      · by_cases w : j = n
        · rw [w] at y; exact Or.inr y
        · exact Or.inl (Or.inr ⟨j, j0, by omega, y⟩)
theorem smW_3 {f a : Int → Int} {n : Int} (hn : 0 ≤ n ∧ n ≤ 3) : smW f a n.toNat = 1 + sm3 f n (a 0) (a 1) (a 2) := by
  have : n = 0 ∨ n = 1 ∨ n = 2 ∨ n = 3 := by omega
  unfold sm3
  rcases this with z | z | z | z <;> subst z
  · rw [if_neg (by omega), if_neg (by omega), if_neg (by omega)]; rfl
  · rw [if_pos (by omega), if_neg (by omega), if_neg (by omega)]; show 1 + f (a 0) = _; omega
  · rw [if_pos (by omega), if_pos (by omega), if_neg (by omega)]; show 1 + f (a 0) + f (a 1) = _; omega
  · rw [if_pos (by omega), if_pos (by omega), if_pos (by omega)]; show 1 + f (a 0) + f (a 1) + f (a 2) = _; omega
end PTY
