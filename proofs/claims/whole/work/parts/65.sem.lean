/-! ===== what patterns match, and what their names stand for then ===== -/
def al3 (c : Int) (f : Int → Bool) : Bool := (decide (c ≤ 0) || f 0) && ((decide (c ≤ 1) || f 1) && (decide (c ≤ 2) || f 2))
theorem al3_iff {c : Int} {f : Int → Bool} (hc : c ≤ 3) : al3 c f = true ↔ ∀ j, 0 ≤ j → j < c → f j = true := by
  unfold al3
  rw [Bool.and_eq_true, Bool.and_eq_true, Bool.or_eq_true, Bool.or_eq_true, Bool.or_eq_true, decide_eq_true_eq, decide_eq_true_eq, decide_eq_true_eq]
  constructor
  · rintro ⟨a, b, d⟩ j j0 j1
    have : j = 0 ∨ j = 1 ∨ j = 2 := by omega
    rcases this with z | z | z
    · subst z; rcases a with a | a
      · omega
      · exact a
    · subst z; rcases b with a | a
      · omega
      · exact a
    · subst z; rcases d with a | a
      · omega
      · exact a
  · intro h
    refine ⟨?_, ?_, ?_⟩
    · by_cases z : c ≤ 0
      · exact Or.inl z
      · exact Or.inr (h 0 (by omega) (by omega))
    · by_cases z : c ≤ 1
      · exact Or.inl z
      · exact Or.inr (h 1 (by omega) (by omega))
    · by_cases z : c ≤ 2
      · exact Or.inl z
      · exact Or.inr (h 2 (by omega) (by omega))
/-- a pattern matches a value -/
def mt (D : xM) : Nat → Int → Int → Bool
  | 0, _, _ => false
  | n + 1, p, v => if D 68 p = 0 then true else if D 68 p = 1 then D 65 v == D 70 p else if D 68 p = 3 then mt D n (prt D p 0) v else if D 68 p = 4 then mt D n (prt D p 0) v || mt D n (prt D p 1) v else (D 65 v == D 70 p) && al3 (pct D p) (fun j => mt D n (prt D p j) (D 66 (3 * v + j)))
/-- what a name stands for when it does -/
def nv (D : xM) : Nat → Int → Int → Int → Int
  | 0, _, _, _ => -1
  | n + 1, p, v, a => if D 68 p = 0 then (if D 70 p = a then v else -1) else if D 68 p = 1 then -1 else if D 68 p = 3 then (if D 70 p = a then v else nv D n (prt D p 0) v a) else if D 68 p = 4 then (if mt D n (prt D p 0) v = true then nv D n (prt D p 0) v a else nv D n (prt D p 1) v a) else
      if 0 < pct D p ∧ xand32 (xshr32 (D 73 (prt D p 0)) a) 1 = 1 then nv D n (prt D p 0) (D 66 (3 * v + 0)) a else if 1 < pct D p ∧ xand32 (xshr32 (D 73 (prt D p 1)) a) 1 = 1 then nv D n (prt D p 1) (D 66 (3 * v + 1)) a else if 2 < pct D p ∧ xand32 (xshr32 (D 73 (prt D p 2)) a) 1 = 1 then nv D n (prt D p 2) (D 66 (3 * v + 2)) a else -1
section SEM
variable {D : xM}
theorem pct_rg (hw : wfP D) (ht : wfT D) {p : Int} (hp : isP D p) (h2 : D 68 p = 2) : 0 ≤ pct D p ∧ pct D p ≤ 3 := by
  obtain ⟨a, b, -, -⟩ := (hw.2 p hp).2.2.2.2.2.2.1 h2
  obtain ⟨c, -⟩ := hw.2 p hp
  exact (ht.2.2.2 _ _ c.1 c.2 a.1 a.2).1
theorem prt_w (hw : wfP D) (ht : wfT D) {p j : Int} (hp : isP D p) (h2 : D 68 p = 2) (j0 : 0 ≤ j) (j1 : j < pct D p) : isP D (prt D p j) ∧ D 72 (prt D p j) + 1 ≤ D 72 p := by
  obtain ⟨-, -, c, d⟩ := (hw.2 p hp).2.2.2.2.2.2.1 h2
  have hpc := pct_rg hw ht hp h2
  refine ⟨(c j j0 j1).1, ?_⟩
  have w0 : 0 < pct D p → 1 ≤ D 72 (prt D p 0) := fun z => (hw.2 _ (c 0 (by omega) z).1).2.1.1
  have w1 : 1 < pct D p → 1 ≤ D 72 (prt D p 1) := fun z => (hw.2 _ (c 1 (by omega) z).1).2.1.1
  have w2 : 2 < pct D p → 1 ≤ D 72 (prt D p 2) := fun z => (hw.2 _ (c 2 (by omega) z).1).2.1.1
  rw [d]
  unfold sm3
  have : j = 0 ∨ j = 1 ∨ j = 2 := by omega
  rcases this with z | z | z
  · subst z; split <;> omega
  · subst z; split <;> omega
  · subst z; split <;> omega
theorem mt_fuel (hw : wfP D) (ht : wfT D) : ∀ (n k : Nat) (p v : Int), isP D p → D 72 p ≤ (n : Int) → D 72 p ≤ (k : Int) → mt D n p v = mt D k p v := by
  intro n
  induction n with
  | zero => intro k p v hp h1; have := (hw.2 p hp).2.1; omega
  | succ n ih =>
    intro k p v hp h1 h2
    obtain ⟨k, rfl⟩ : ∃ j, k = j + 1 := ⟨k - 1, by have := (hw.2 p hp).2.1; omega⟩
    unfold mt
    by_cases c0 : D 68 p = 0
    · rw [if_pos c0, if_pos c0]
    · rw [if_neg c0, if_neg c0]
      by_cases c1 : D 68 p = 1
      · rw [if_pos c1, if_pos c1]
      · rw [if_neg c1, if_neg c1]
        by_cases c3 : D 68 p = 3
        · obtain ⟨-, a, -, -, b⟩ := (hw.2 p hp).2.2.2.2.2.2.2.1 c3
          rw [if_pos c3, if_pos c3, ih k _ v a (by omega) (by omega)]
        · rw [if_neg c3, if_neg c3]
          by_cases c4 : D 68 p = 4
          · obtain ⟨a, b⟩ := (hw.2 p hp).2.2.2.2.2.2.2.2 c4
            have a0 := (a 0 (by omega) (by omega)).1
            have a1 := (a 1 (by omega) (by omega)).1
            have b0 := (hw.2 _ a0).2.1
            have b1 := (hw.2 _ a1).2.1
            rw [if_pos c4, if_pos c4, ih k _ v a0 (by omega) (by omega), ih k _ v a1 (by omega) (by omega)]
          · rw [if_neg c4, if_neg c4]
            have c2 : D 68 p = 2 := by have := (hw.2 p hp).2.2.2.1; omega
            have hpc := pct_rg hw ht hp c2
            congr 1
            have e : ∀ j, 0 ≤ j → j < pct D p → ∀ v, mt D n (prt D p j) v = mt D k (prt D p j) v := by
              intro j j0 j1 v
              obtain ⟨u1, u2⟩ := prt_w hw ht hp c2 j0 j1
              exact ih k _ v u1 (by omega) (by omega)
            apply Bool.eq_iff_iff.mpr
            rw [al3_iff hpc.2, al3_iff hpc.2]
            constructor
            · intro h j j0 j1; rw [← e j j0 j1]; exact h j j0 j1
            · intro h j j0 j1; rw [e j j0 j1]; exact h j j0 j1
theorem nv_fuel (hw : wfP D) (ht : wfT D) : ∀ (n k : Nat) (p v a : Int), isP D p → D 72 p ≤ (n : Int) → D 72 p ≤ (k : Int) → nv D n p v a = nv D k p v a := by
  intro n
  induction n with
  | zero => intro k p v x hp h1; have := (hw.2 p hp).2.1; omega
  | succ n ih =>
    intro k p v x hp h1 h2
    obtain ⟨k, rfl⟩ : ∃ j, k = j + 1 := ⟨k - 1, by have := (hw.2 p hp).2.1; omega⟩
    unfold nv
    by_cases c0 : D 68 p = 0
    · rw [if_pos c0, if_pos c0]
    · rw [if_neg c0, if_neg c0]
      by_cases c1 : D 68 p = 1
      · rw [if_pos c1, if_pos c1]
      · rw [if_neg c1, if_neg c1]
        by_cases c3 : D 68 p = 3
        · obtain ⟨-, a, -, -, b⟩ := (hw.2 p hp).2.2.2.2.2.2.2.1 c3
          rw [if_pos c3, if_pos c3, ih k _ v x a (by omega) (by omega)]
        · rw [if_neg c3, if_neg c3]
          by_cases c4 : D 68 p = 4
          · obtain ⟨a, b⟩ := (hw.2 p hp).2.2.2.2.2.2.2.2 c4
            have a0 := (a 0 (by omega) (by omega)).1
            have a1 := (a 1 (by omega) (by omega)).1
            have b0 := (hw.2 _ a0).2.1
            have b1 := (hw.2 _ a1).2.1
            rw [if_pos c4, if_pos c4, ih k _ v x a0 (by omega) (by omega), ih k _ v x a1 (by omega) (by omega), mt_fuel hw ht n k _ v a0 (by omega) (by omega)]
          · rw [if_neg c4, if_neg c4]
            have c2 : D 68 p = 2 := by have := (hw.2 p hp).2.2.2.1; omega
            have e : ∀ j, 0 ≤ j → j < pct D p → ∀ v, nv D n (prt D p j) v x = nv D k (prt D p j) v x := by
              intro j j0 j1 v
              obtain ⟨u1, u2⟩ := prt_w hw ht hp c2 j0 j1
              exact ih k _ v x u1 (by omega) (by omega)
            by_cases z0 : 0 < pct D p ∧ xand32 (xshr32 (D 73 (prt D p 0)) x) 1 = 1
            · rw [if_pos z0, if_pos z0, e 0 (by omega) z0.1]
            · rw [if_neg z0, if_neg z0]
              by_cases z1 : 1 < pct D p ∧ xand32 (xshr32 (D 73 (prt D p 1)) x) 1 = 1
              · rw [if_pos z1, if_pos z1, e 1 (by omega) z1.1]
              · rw [if_neg z1, if_neg z1]
                by_cases z2 : 2 < pct D p ∧ xand32 (xshr32 (D 73 (prt D p 2)) x) 1 = 1
                · rw [if_pos z2, if_pos z2, e 2 (by omega) z2.1]
                · rw [if_neg z2, if_neg z2]
def mF (D : xM) (p v : Int) : Bool := mt D 41 p v
def nvF (D : xM) (p v a : Int) : Int := nv D 41 p v a
theorem mF_0 {p v : Int} (h : D 68 p = 0) : mF D p v = true := by unfold mF mt; rw [if_pos h]
theorem mF_1 {p v : Int} (h : D 68 p = 1) : mF D p v = (D 65 v == D 70 p) := by unfold mF mt; rw [if_neg (by omega), if_pos h]
theorem mF_3 (hw : wfP D) (ht : wfT D) {p v : Int} (hp : isP D p) (h : D 68 p = 3) : mF D p v = mF D (prt D p 0) v := by
  obtain ⟨-, a, -, -, b⟩ := (hw.2 p hp).2.2.2.2.2.2.2.1 h
  have := (hw.2 p hp).2.1
  unfold mF
  rw [mt, if_neg (by omega), if_neg (by omega), if_pos h]
  exact mt_fuel hw ht 40 41 _ v a (by omega) (by omega)
theorem mF_4 (hw : wfP D) (ht : wfT D) {p v : Int} (hp : isP D p) (h : D 68 p = 4) : mF D p v = (mF D (prt D p 0) v || mF D (prt D p 1) v) := by
  obtain ⟨a, b⟩ := (hw.2 p hp).2.2.2.2.2.2.2.2 h
  have a0 := (a 0 (by omega) (by omega)).1
  have a1 := (a 1 (by omega) (by omega)).1
  have b0 := (hw.2 _ a0).2.1
  have b1 := (hw.2 _ a1).2.1
  have := (hw.2 p hp).2.1
  unfold mF
  rw [mt, if_neg (by omega), if_neg (by omega), if_neg (by omega), if_pos h, mt_fuel hw ht 40 41 _ v a0 (by omega) (by omega), mt_fuel hw ht 40 41 _ v a1 (by omega) (by omega)]
theorem mF_2 (hw : wfP D) (ht : wfT D) {p v : Int} (hp : isP D p) (h : D 68 p = 2) : mF D p v = true ↔ D 65 v = D 70 p ∧ ∀ j, 0 ≤ j → j < pct D p → mF D (prt D p j) (D 66 (3 * v + j)) = true := by
  have hpc := pct_rg hw ht hp h
  have := (hw.2 p hp).2.1
  unfold mF
  rw [mt, if_neg (by omega), if_neg (by omega), if_neg (by omega), if_neg (by omega), Bool.and_eq_true, beq_iff_eq, al3_iff hpc.2]
  constructor
  · rintro ⟨a, b⟩
    refine ⟨a, fun j j0 j1 => ?_⟩
    obtain ⟨u1, u2⟩ := prt_w hw ht hp h j0 j1
    rw [← mt_fuel hw ht 40 41 _ _ u1 (by omega) (by omega)]; exact b j j0 j1
  · rintro ⟨a, b⟩
    refine ⟨a, fun j j0 j1 => ?_⟩
    obtain ⟨u1, u2⟩ := prt_w hw ht hp h j0 j1
    rw [mt_fuel hw ht 40 41 _ _ u1 (by omega) (by omega)]; exact b j j0 j1
theorem nvF_0 {p v a : Int} (h : D 68 p = 0) (ha : D 70 p = a) : nvF D p v a = v := by unfold nvF nv; rw [if_pos h, if_pos ha]
theorem nvF_3 (hw : wfP D) (ht : wfT D) {p v a : Int} (hp : isP D p) (h : D 68 p = 3) : nvF D p v a = (if D 70 p = a then v else nvF D (prt D p 0) v a) := by
  obtain ⟨-, x, -, -, b⟩ := (hw.2 p hp).2.2.2.2.2.2.2.1 h
  have := (hw.2 p hp).2.1
  unfold nvF
  rw [nv, if_neg (by omega), if_neg (by omega), if_pos h, nv_fuel hw ht 40 41 _ v a x (by omega) (by omega)]
theorem nvF_4 (hw : wfP D) (ht : wfT D) {p v a : Int} (hp : isP D p) (h : D 68 p = 4) : nvF D p v a = (if mF D (prt D p 0) v = true then nvF D (prt D p 0) v a else nvF D (prt D p 1) v a) := by
  obtain ⟨x, b⟩ := (hw.2 p hp).2.2.2.2.2.2.2.2 h
  have a0 := (x 0 (by omega) (by omega)).1
  have a1 := (x 1 (by omega) (by omega)).1
  have b0 := (hw.2 _ a0).2.1
  have b1 := (hw.2 _ a1).2.1
  have := (hw.2 p hp).2.1
  unfold nvF mF
  rw [nv, if_neg (by omega), if_neg (by omega), if_neg (by omega), if_pos h, nv_fuel hw ht 40 41 _ v a a0 (by omega) (by omega), nv_fuel hw ht 40 41 _ v a a1 (by omega) (by omega), mt_fuel hw ht 40 41 _ v a0 (by omega) (by omega)]
theorem nvF_2 (hw : wfP D) (ht : wfT D) (hb : wfB D) {p v a j : Int} (hp : isP D p) (h : D 68 p = 2) (a0 : 0 ≤ a) (a1 : a < 16) (j0 : 0 ≤ j) (j1 : j < pct D p) (hn : nmb D (prt D p j) a) : nvF D p v a = nvF D (prt D p j) (D 66 (3 * v + j)) a := by
  have hpc := pct_rg hw ht hp h
  have := (hw.2 p hp).2.1
  have hu := ((hb p hp a a0 a1).2.2.1 h).2
  have e : ∀ i, 0 ≤ i → i < pct D p → ∀ v, nv D 40 (prt D p i) v a = nv D 41 (prt D p i) v a := by
    intro i i0 i1 v
    obtain ⟨u1, u2⟩ := prt_w hw ht hp h i0 i1
    exact nv_fuel hw ht 40 41 _ _ _ u1 (by omega) (by omega)
  unfold nvF
  rw [nv, if_neg (by omega), if_neg (by omega), if_neg (by omega), if_neg (by omega)]
  have : j = 0 ∨ j = 1 ∨ j = 2 := by omega
  rcases this with z | z | z
  · subst z
    rw [if_pos ⟨j1, hn⟩, e 0 (by omega) j1]
  · subst z
    rw [if_neg (fun y => hu 0 1 (by omega) (by omega) j1 ⟨y.2, hn⟩), if_pos ⟨j1, hn⟩, e 1 (by omega) j1]
  · subst z
    rw [if_neg (fun y => hu 0 2 (by omega) (by omega) j1 ⟨y.2, hn⟩), if_neg (fun y => hu 1 2 (by omega) (by omega) j1 ⟨y.2, hn⟩), if_pos ⟨j1, hn⟩, e 2 (by omega) j1]
/-- what is left matches what the pattern matches -/
theorem mF_lF (hw : wfP D) (ht : wfT D) {v : Int} : ∀ (n : Nat) (p : Int), isP D p → D 72 p ≤ (n : Int) → (mF D p v = true ↔ (lF D p < 0 ∨ mF D (lF D p) v = true)) := by
  intro n
  induction n with
  | zero => intro p hp h; have := (hw.2 p hp).2.1; omega
  | succ n ih =>
    intro p hp h
    by_cases h3 : D 68 p = 3
    · obtain ⟨-, a3, -, t, b⟩ := (hw.2 p hp).2.2.2.2.2.2.2.1 h3
      rw [lF_3 hw hp h3, mF_3 hw ht hp h3]
      exact ih _ a3 (by omega)
    · by_cases h0 : D 68 p = 0
      · rw [lF_0 hp h0, mF_0 h0]
        constructor
        · intro _; left; omega
        · intro _; rfl
      · rw [lF_o hp h0 h3]
        have := hp.1
        constructor
        · exact Or.inr
        · rintro (z | z)
          · omega
          · exact z
theorem mF_l (hw : wfP D) (ht : wfT D) {p v : Int} (hp : isP D p) : mF D p v = true ↔ (lF D p < 0 ∨ mF D (lF D p) v = true) := mF_lF hw ht 40 p hp (hw.2 p hp).2.1.2
theorem nvF_lF (hw : wfP D) (ht : wfT D) (hb : wfB D) {v a : Int} (a0 : 0 ≤ a) (a1 : a < 16) : ∀ (n : Nat) (p : Int), isP D p → D 72 p ≤ (n : Int) → nmb D p a → nvF D p v a = (if tF D p a = true then v else nvF D (lF D p) v a) := by
  intro n
  induction n with
  | zero => intro p hp h; have := (hw.2 p hp).2.1; omega
  | succ n ih =>
    intro p hp h hn
    by_cases h3 : D 68 p = 3
    · obtain ⟨-, a3, -, t, b⟩ := (hw.2 p hp).2.2.2.2.2.2.2.1 h3
      rw [lF_3 hw hp h3, tF_3 hw hp h3, nvF_3 hw ht hp h3]
      by_cases z : D 70 p = a
      · rw [if_pos z, if_pos (by rw [Bool.or_eq_true, beq_iff_eq]; exact Or.inl z)]
      · have hn2 : nmb D (prt D p 0) a := by
          rcases ((hb p hp a a0 a1).2.2.2.1 h3).1.mp hn with y | y
          · exact absurd y z
          · exact y
        rw [if_neg z, ih _ a3 (by omega) hn2]
        by_cases y : tF D (prt D p 0) a = true
        · rw [if_pos y, if_pos (by rw [Bool.or_eq_true]; exact Or.inr y)]
        · rw [if_neg y, if_neg (by rw [Bool.or_eq_true, beq_iff_eq]; rintro (x | x); exact z x; exact y x)]
    · by_cases h0 : D 68 p = 0
      · have := ((hb p hp a a0 a1).1 h0).mp hn
        rw [lF_0 hp h0, tF_0 hp h0, nvF_0 h0 this, if_pos (by rw [beq_iff_eq]; exact this)]
      · rw [lF_o hp h0 h3, tF_o hp h0 h3, if_neg (by decide)]
theorem nvF_l (hw : wfP D) (ht : wfT D) (hb : wfB D) {p v a : Int} (hp : isP D p) (a0 : 0 ≤ a) (a1 : a < 16) (hn : nmb D p a) : nvF D p v a = (if tF D p a = true then v else nvF D (lF D p) v a) := nvF_lF hw ht hb a0 a1 40 p hp (hw.2 p hp).2.1.2 hn
end SEM
