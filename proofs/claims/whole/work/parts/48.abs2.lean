/-! ===== nodes in order stay so ===== -/
section ABS2
variable {D E : xM} {w np at_ : Int} {col : Int → Int}
theorem nF_ok {P : aR → Prop} (hw : 0 ≤ w) (hP : ∀ r a j, 0 ≤ a → a < w → P r → 0 ≤ r.2.1 a → D 68 (r.2.1 a) = 4 → 0 ≤ j → j < 2 → P (spl D col a r j)) : ∀ (n : Nat) (rows rows' : List aR), nF D w col n rows = some rows' → (∀ q ∈ rows, P q) → rows.length ≤ 24 → (∀ q ∈ rows', P q) ∧ rows'.length ≤ 24 ∧ (rows = [] ↔ rows' = []) ∧ ∀ r rs, rows' = r :: rs → ¬ (0 ≤ fOp r.2.1 w.toNat 0 ∧ 0 ≤ r.2.1 (fOp r.2.1 w.toNat 0) ∧ D 68 (r.2.1 (fOp r.2.1 w.toNat 0)) = 4) := by
  intro n
  induction n with
  | zero => intro rows rows' h; cases h
  | succ n ih =>
    intro rows rows' h hq hl
    cases rows with
    | nil => cases h; exact ⟨hq, hl, Iff.rfl, fun r rs z => by cases z⟩
    | cons r rs =>
      unfold nF at h
      by_cases c : 0 ≤ fOp r.2.1 w.toNat 0 ∧ 0 ≤ r.2.1 (fOp r.2.1 w.toNat 0) ∧ D 68 (r.2.1 (fOp r.2.1 w.toNat 0)) = 4
      · rw [if_pos c] at h
        by_cases h24 : rs.length = 23
        · rw [if_pos h24] at h; cases h
        · rw [if_neg h24] at h
          have ha : fOp r.2.1 w.toNat 0 < w := by
            rcases fOp_is (f := r.2.1) w.toNat 0 with ⟨a, -⟩ | ⟨a, b, -, -⟩ <;> omega
          have := ih _ rows' h ?_ ?_
          · refine ⟨this.1, this.2.1, ⟨fun z => (by cases z), fun z => ?_⟩, this.2.2.2⟩
            have := this.2.2.1.mpr z
            cases this
          · intro q hm
            rcases List.mem_cons.mp hm with h | h
            · subst h; exact hP r _ 0 c.1 ha (hq r (by simp)) c.2.1 c.2.2 (by omega) (by omega)
            · rcases List.mem_cons.mp h with h | h
              · subst h; exact hP r _ 1 c.1 ha (hq r (by simp)) c.2.1 c.2.2 (by omega) (by omega)
              · exact hq q (List.mem_cons_of_mem _ h)
          · simp at hl ⊢; omega
      · rw [if_neg c] at h
        have h := Option.some.inj h
        subst h
        exact ⟨hq, hl, Iff.rfl, fun r' rs' z => by cases z; exact c⟩
theorem nA_ok {P : aR → Prop} (hat : 0 ≤ at_ ∧ at_ < w) (hP : ∀ r j, P r → 0 ≤ r.2.1 at_ → D 68 (r.2.1 at_) = 4 → 0 ≤ j → j < 2 → P (spl D col at_ r j)) : ∀ (n : Nat) (dn todo rows' : List aR), nA D col at_ n dn todo = some rows' → (∀ q ∈ dn, P q ∧ ¬ (0 ≤ q.2.1 at_ ∧ D 68 (q.2.1 at_) = 4)) → (∀ q ∈ todo, P q) → (dn ++ todo).length ≤ 24 → (∀ q ∈ rows', P q ∧ ¬ (0 ≤ q.2.1 at_ ∧ D 68 (q.2.1 at_) = 4)) ∧ rows'.length ≤ 24 ∧ (dn ++ todo).length ≤ rows'.length := by
  intro n
  induction n with
  | zero => intro dn todo rows' h; cases h
  | succ n ih =>
    intro dn todo rows' h hd ht hl
    cases todo with
    | nil => cases h; exact ⟨hd, by simpa using hl, by simp⟩
    | cons r rs =>
      unfold nA at h
      by_cases c : 0 ≤ r.2.1 at_ ∧ D 68 (r.2.1 at_) = 4
      · rw [if_pos c] at h
        by_cases h24 : dn.length + rs.length = 23
        · rw [if_pos h24] at h; cases h
        · rw [if_neg h24] at h
          have := ih dn _ rows' h hd ?_ ?_
          · refine ⟨this.1, this.2.1, ?_⟩
            have := this.2.2
            simp at this ⊢; omega
          · intro q hm
            rcases List.mem_cons.mp hm with h | h
            · subst h; exact hP r 0 (ht r (by simp)) c.1 c.2 (by omega) (by omega)
            · rcases List.mem_cons.mp h with h | h
              · subst h; exact hP r 1 (ht r (by simp)) c.1 c.2 (by omega) (by omega)
              · exact ht q (List.mem_cons_of_mem _ h)
          · simp at hl ⊢; omega
      · rw [if_neg c] at h
        have := ih (dn ++ [r]) rs rows' h ?_ (fun q hm => ht q (List.mem_cons_of_mem _ hm)) (by simpa using hl)
        · refine ⟨this.1, this.2.1, ?_⟩
          have := this.2.2
          simpa using this
        · intro q hm
          rcases List.mem_append.mp hm with h | h
          · exact hd q h
          · simp at h; subst h; exact ⟨ht _ (by simp), c⟩
/-- a node comes to its rows and its column -/
theorem shp_ok {P : aR → Prop} {rows rows' : List aR} (hw : 0 ≤ w) (hP : ∀ r a j, 0 ≤ a → a < w → P r → 0 ≤ r.2.1 a → D 68 (r.2.1 a) = 4 → 0 ≤ j → j < 2 → P (spl D col a r j)) (h : shp D w col rows = some (rows', at_)) (hq : ∀ q ∈ rows, P q) (hl : rows.length ≤ 24) :
    (∀ q ∈ rows', P q) ∧ rows'.length ≤ 24 ∧ ((at_ = -1 ∧ fA w rows' = -1) ∨ ((0 ≤ at_ ∧ at_ < w) ∧ rows' ≠ [] ∧ ∀ q ∈ rows', ¬ (0 ≤ q.2.1 at_ ∧ D 68 (q.2.1 at_) = 4))) := by
  unfold shp at h
  cases hF : nF D w col 25 rows with
  | none => rw [hF] at h; cases h
  | some rs =>
    rw [hF] at h
    obtain ⟨a1, a2, a3, a4⟩ := nF_ok hw hP 25 rows rs hF hq hl
    cases rs with
    | nil =>
      have h := Option.some.inj h
      cases h
      exact ⟨a1, a2, Or.inl ⟨rfl, rfl⟩⟩
    | cons r rs =>
      have h : (if fOp r.2.1 w.toNat 0 < 0 then some (r :: rs, -1) else (nA D col (fOp r.2.1 w.toNat 0) 50 [] (r :: rs)).map (fun q => (q, fOp r.2.1 w.toNat 0))) = some (rows', at_) := h
      by_cases c : fOp r.2.1 w.toNat 0 < 0
      · rw [if_pos c] at h
        have h := Option.some.inj h
        cases h
        refine ⟨a1, a2, Or.inl ⟨rfl, ?_⟩⟩
        rcases fOp_is (f := r.2.1) w.toNat 0 with ⟨a, -⟩ | ⟨a, b, -, -⟩
        · exact a
        · omega
      · rw [if_neg c] at h
        have ha : fOp r.2.1 w.toNat 0 < w := by
          rcases fOp_is (f := r.2.1) w.toNat 0 with ⟨a, -⟩ | ⟨a, b, -, -⟩ <;> omega
        cases hA : nA D col (fOp r.2.1 w.toNat 0) 50 [] (r :: rs) with
        | none => rw [hA] at h; cases h
        | some rs2 =>
          rw [hA] at h
          have h := Option.some.inj h
          cases h
          obtain ⟨b1, b2, b3⟩ := nA_ok (P := P) (at_ := fOp r.2.1 w.toNat 0) (w := w) ⟨by omega, ha⟩ (fun r' j h1 h2 h3 h4 h5 => hP r' _ j (by omega) ha h1 h2 h3 h4 h5) 50 [] (r :: rs) rows' hA (by simp) a1 (by simpa using a2)
          refine ⟨fun q hm => (b1 q hm).1, b2, Or.inr ⟨⟨by omega, ha⟩, fun z => ?_, fun q hm => (b1 q hm).2⟩⟩
          subst z
          simp at b3
/-- a row's columns are ANY, or patterns of the columns' types, neither ANY nor ALSO -/
def okT (D : xM) (w : Int) (col : Int → Int) (E : xM) (r : aR) : Prop := ∀ k, 0 ≤ k → k < w → r.2.1 k = -1 ∨ (isP D (r.2.1 k) ∧ D 68 (r.2.1 k) ≠ 0 ∧ D 68 (r.2.1 k) ≠ 3 ∧ D 69 (r.2.1 k) = E 88 (col k))
theorem okT_C {r : aR} (h : okT D w col E r) : okC D w r := by
  intro k h0 h1
  rcases h k h0 h1 with h | h
  · exact Or.inl h
  · exact Or.inr h.1
theorem lF_T (hw : wfP D) {p : Int} (hp : isP D p) : lF D p = -1 ∨ (isP D (lF D p) ∧ D 68 (lF D p) ≠ 0 ∧ D 68 (lF D p) ≠ 3 ∧ D 69 (lF D p) = D 69 p) := by
  rcases lF_is hw 40 p hp (hw.2 p hp).2.1.2 with h | h
  · exact Or.inl h
  · exact Or.inr ⟨h.1, h.2.1, h.2.2.1, h.2.2.2.1⟩
theorem okT_spl (hw : wfP D) {r : aR} {a j : Int} (h0 : 0 ≤ a) (h1 : a < w) (h : okT D w col E r) (hE : 0 ≤ r.2.1 a) (h4 : D 68 (r.2.1 a) = 4) (hj : 0 ≤ j) (hj2 : j < 2) : okT D w col E (spl D col a r j) := by
  intro k k0 k1
  show uf r.2.1 a (lF D (prt D (r.2.1 a) j)) k = -1 ∨ (isP D (uf r.2.1 a (lF D (prt D (r.2.1 a) j)) k) ∧ D 68 (uf r.2.1 a (lF D (prt D (r.2.1 a) j)) k) ≠ 0 ∧ D 68 (uf r.2.1 a (lF D (prt D (r.2.1 a) j)) k) ≠ 3 ∧ D 69 (uf r.2.1 a (lF D (prt D (r.2.1 a) j)) k) = E 88 (col k))
  unfold uf
  by_cases hk : k = a
  · rw [if_pos hk, hk]
    rcases h a h0 h1 with h | ⟨h, -, -, ht⟩
    · omega
    · obtain ⟨p1, p2, p3⟩ := ((hw.2 _ h).2.2.2.2.2.2.2.2 h4).1 j hj hj2
      rcases lF_T hw p1 with h | h
      · exact Or.inl h
      · exact Or.inr ⟨h.1, h.2.1, h.2.2.1, by rw [h.2.2.2, p3, ht]⟩
  · rw [if_neg hk]; exact h k k0 k1
/-- the types are in order -/
def wfT (D : xM) : Prop := (1 ≤ D 59 1 ∧ D 59 1 ≤ 8) ∧ (∀ t, 0 ≤ t → t < 8 → 0 ≤ D 60 t ∧ D 60 t ≤ 6) ∧ D 60 0 = 0 ∧ ∀ t k, 0 ≤ t → t < D 59 1 → 0 ≤ k → k < D 60 t → (0 ≤ D 61 (6 * t + k) ∧ D 61 (6 * t + k) ≤ 3) ∧ ∀ j, 0 ≤ j → j < D 61 (6 * t + k) → 0 ≤ D 62 (3 * (6 * t + k) + j) ∧ D 62 (3 * (6 * t + k) + j) < D 59 1
/-- a row of a node: its columns, its number, the places of its names -/
def okR (D : xM) (w : Int) (col : Int → Int) (np : Int) (E : xM) (r : aR) : Prop := okT D w col E r ∧ (0 ≤ r.1 ∧ r.1 < 12) ∧ ∀ a, 0 ≤ a → a < 16 → r.2.2 a = -1 ∨ (0 ≤ r.2.2 a ∧ r.2.2 a < np)
def okCo (D : xM) (w : Int) (col : Int → Int) (np : Int) (E : xM) : Prop := 0 ≤ w ∧ 0 ≤ np ∧ (∀ k, 0 ≤ k → k < w → (0 ≤ col k ∧ col k < np) ∧ E 89 (col k) = 0 ∧ (0 ≤ E 88 (col k) ∧ E 88 (col k) < D 59 1)) ∧ ∀ j k, 0 ≤ j → j < w → 0 ≤ k → k < w → col j = col k → j = k
/-- a node in order -/
def wfN (D : xM) (w : Int) (col : Int → Int) (np : Int) (E : xM) (rows : List aR) : Prop := okCo D w col np E ∧ (∀ r ∈ rows, okR D w col np E r) ∧ rows.length ≤ 24
theorem okR_spl (hw : wfP D) (hc : okCo D w col np E) {r : aR} {a j : Int} (h0 : 0 ≤ a) (h1 : a < w) (h : okR D w col np E r) (hE : 0 ≤ r.2.1 a) (h4 : D 68 (r.2.1 a) = 4) (hj : 0 ≤ j) (hj2 : j < 2) : okR D w col np E (spl D col a r j) := by
  refine ⟨okT_spl hw h0 h1 h.1 hE h4 hj hj2, h.2.1, fun x x0 x1 => ?_⟩
  show (if tF D (prt D (r.2.1 a) j) x = true then col a else r.2.2 x) = -1 ∨ _
  by_cases ht : tF D (prt D (r.2.1 a) j) x = true
  · right
    show 0 ≤ (if tF D (prt D (r.2.1 a) j) x = true then col a else r.2.2 x) ∧ (if tF D (prt D (r.2.1 a) j) x = true then col a else r.2.2 x) < np
    rw [if_pos ht]; exact (hc.2.2.1 a h0 h1).1
  · show (if tF D (prt D (r.2.1 a) j) x = true then col a else r.2.2 x) = -1 ∨ (0 ≤ (if tF D (prt D (r.2.1 a) j) x = true then col a else r.2.2 x) ∧ (if tF D (prt D (r.2.1 a) j) x = true then col a else r.2.2 x) < np)
    rw [if_neg ht]; exact h.2.2 x x0 x1
theorem wfN_shp {rows rows' : List aR} (hw : wfP D) (hn : wfN D w col np E rows) (h : shp D w col rows = some (rows', at_)) : wfN D w col np E rows' ∧ ((at_ = -1 ∧ fA w rows' = -1) ∨ ((0 ≤ at_ ∧ at_ < w) ∧ rows' ≠ [] ∧ ∀ q ∈ rows', ¬ (0 ≤ q.2.1 at_ ∧ D 68 (q.2.1 at_) = 4))) := by
  have := shp_ok (P := okR D w col np E) hn.1.1 (fun r a j h0 h1 h2 h3 h4 h5 h6 => okR_spl hw hn.1 h0 h1 h2 h3 h4 h5 h6) h hn.2.1 hn.2.2
  exact ⟨⟨hn.1, this.1, this.2.1⟩, this.2.2⟩
/-- which key a branch may have -/
def okK (D : xM) (ty key : Int) (oth : Bool) : Prop := oth = false → ty ≠ 0 → 0 ≤ key ∧ key < D 60 ty
theorem bMn_rg (ht : wfT D) {ty key : Int} {oth : Bool} (h1 : 0 ≤ ty ∧ ty < D 59 1) (hk : okK D ty key oth) : 0 ≤ bMn D ty key oth ∧ bMn D ty key oth ≤ 3 := by
  unfold bMn
  by_cases h : oth = true ∨ ty = 0
  · rw [if_pos h]; omega
  · rw [if_neg h]
    have h2 : oth = false := by cases oth <;> simp at h ⊢
    have := hk h2 (fun z => h (Or.inr z))
    exact (ht.2.2.2 ty key h1.1 h1.2 this.1 this.2).1
/-- a made pattern, or a number, stands where it is tested -/
theorem okT_at (hw : wfP D) {r : aR} (h : okT D w col E r) (hat : 0 ≤ at_ ∧ at_ < w) (hne : ¬ (0 ≤ r.2.1 at_ ∧ D 68 (r.2.1 at_) = 4)) : r.2.1 at_ = -1 ∨ (isP D (r.2.1 at_) ∧ D 69 (r.2.1 at_) = E 88 (col at_) ∧ (D 68 (r.2.1 at_) = 1 ∨ D 68 (r.2.1 at_) = 2)) := by
  rcases h at_ hat.1 hat.2 with h | ⟨h1, h2, h3, h4⟩
  · exact Or.inl h
  · have := (hw.2 _ h1).2.2.2.1
    have := h1.1
    exact Or.inr ⟨h1, h4, by omega⟩
theorem okK_of (hw : wfP D) {r : aR} (h : okT D w col E r) (hat : 0 ≤ at_ ∧ at_ < w) (hne : ¬ (0 ≤ r.2.1 at_ ∧ D 68 (r.2.1 at_) = 4)) (h0 : 0 ≤ r.2.1 at_) : okK D (E 88 (col at_)) (D 70 (r.2.1 at_)) false := by
  intro _ hty
  rcases okT_at hw h hat hne with h | ⟨h1, h2, h3 | h3⟩
  · omega
  · have := (hw.2 _ h1).2.2.2.2.2.1 h3; omega
  · have := ((hw.2 _ h1).2.2.2.2.2.2.1 h3).1
    rw [h2] at this; exact this
theorem bPt_is (hw : wfP D) (ht : wfT D) {p ty key j : Int} {oth : Bool} (hp : p = -1 ∨ (isP D p ∧ D 69 p = ty ∧ (D 68 p = 1 ∨ D 68 p = 2))) (hin : p < 0 ∨ (oth = false ∧ D 70 p = key)) (h0 : 0 ≤ j) (h1 : j < bMn D ty key oth) : bPt D p j = -1 ∨ (isP D (bPt D p j) ∧ D 69 (bPt D p j) = D 62 (3 * (6 * ty + key) + j)) := by
  unfold bPt
  by_cases hn : p < 0
  · rw [if_pos hn]; exact Or.inl rfl
  · rw [if_neg hn]
    right
    rcases hp with hp | ⟨hp, hty, hk⟩
    · omega
    · unfold bMn at h1
      rcases hin with h | ⟨ho, hk2⟩
      · omega
      · by_cases hz : oth = true ∨ ty = 0
        · rw [if_pos hz] at h1; omega
        · rw [if_neg hz] at h1
          rcases hk with hk | hk
          · have := (hw.2 _ hp).2.2.2.2.2.1 hk
            exact absurd (Or.inr (by omega)) hz
          · have := ((hw.2 _ hp).2.2.2.2.2.2.1 hk).2.2.1 j h0 (by unfold pct; rw [hty, hk2]; exact h1)
            rw [hty, hk2] at this
            exact ⟨this.1, this.2.2⟩
theorem bNm_is {p : Int} {nam : Int → Int} : ∀ (m : Nat) (x : Int), bNm D p np nam m x = nam x ∨ (np ≤ bNm D p np nam m x ∧ bNm D p np nam m x < np + m) := by
  intro m
  induction m with
  | zero => intro x; exact Or.inl rfl
  | succ m ih =>
    intro x
    unfold bNm
    by_cases h : tF D (bPt D p (m : Int)) x = true
    · rw [if_pos h]; right; omega
    · rw [if_neg h]
      rcases ih x with h | h
      · exact Or.inl h
      · right; omega
theorem bRs_mem {m key : Int} {oth : Bool} {r' : aR} : ∀ rows : List aR, r' ∈ bRs D np at_ m key oth rows → ∃ r ∈ rows, r' = bRw D np at_ m r ∧ (r.2.1 at_ < 0 ∨ (oth = false ∧ D 70 (r.2.1 at_) = key)) := by
  intro rows
  induction rows with
  | nil => intro h; cases h
  | cons r rs ih =>
    intro h
    unfold bRs at h
    by_cases c : r.2.1 at_ < 0 ∨ (oth = false ∧ D 70 (r.2.1 at_) = key)
    · rw [if_pos c] at h
      rcases List.mem_cons.mp h with h | h
      · exact ⟨r, by simp, h, c⟩
      · obtain ⟨x, h1, h2⟩ := ih h
        exact ⟨x, by simp [h1], h2⟩
    · rw [if_neg c] at h
      obtain ⟨x, h1, h2⟩ := ih h
      exact ⟨x, by simp [h1], h2⟩
theorem bRs_len {m key : Int} {oth : Bool} : ∀ rows : List aR, (bRs D np at_ m key oth rows).length ≤ rows.length := by
  intro rows
  induction rows with
  | nil => exact Nat.le_refl _
  | cons r rs ih =>
    unfold bRs
    split
    · simp; exact ih
    · simp; omega
theorem bRs_app {m key : Int} {oth : Bool} : ∀ (a b : List aR), bRs D np at_ m key oth (a ++ b) = bRs D np at_ m key oth a ++ bRs D np at_ m key oth b := by
  intro a b
  induction a with
  | nil => rfl
  | cons r rs ih =>
    show (if r.2.1 at_ < 0 ∨ (oth = false ∧ D 70 (r.2.1 at_) = key) then bRw D np at_ m r :: bRs D np at_ m key oth (rs ++ b) else bRs D np at_ m key oth (rs ++ b)) = (if r.2.1 at_ < 0 ∨ (oth = false ∧ D 70 (r.2.1 at_) = key) then bRw D np at_ m r :: bRs D np at_ m key oth rs else bRs D np at_ m key oth rs) ++ bRs D np at_ m key oth b
    rw [ih]
    by_cases c : r.2.1 at_ < 0 ∨ (oth = false ∧ D 70 (r.2.1 at_) = key)
    · rw [if_pos c, if_pos c]; rfl
    · rw [if_neg c, if_neg c]
/-- a branch is in order -/
theorem wfN_chB {rows : List aR} {key : Int} {oth : Bool} (hw : wfP D) (ht : wfT D) (hn : wfN D w col np E rows) (hat : 0 ≤ at_ ∧ at_ < w) (hne : ∀ q ∈ rows, ¬ (0 ≤ q.2.1 at_ ∧ D 68 (q.2.1 at_) = 4)) (hk : okK D (E 88 (col at_)) key oth) {m : Int} (hm : m = bMn D (E 88 (col at_)) key oth) :
    wfN D (w - 1 + m) (bCol col np at_ m) (np + m) (bEn D E (col at_) np m key oth) (bRs D np at_ m key oth rows) := by
  obtain ⟨⟨w0, n0, hcol, hinj⟩, hr, hl⟩ := hn
  have hca := hcol at_ hat.1 hat.2
  have hmr := bMn_rg ht hca.2.2 hk
  rw [← hm] at hmr
  -- what is known of places
  have hE : ∀ i, i < np → i ≠ col at_ → ∀ c, bEn D E (col at_) np m key oth c i = E c i := by
    intro i h1 h2 c
    unfold bEn
    rw [if_neg (by omega), if_neg (by omega), if_neg (fun z => h2 z.1), if_neg (fun z => h2 z.1), if_neg (fun z => h2 z.1), if_neg (fun z => h2 z.1)]
  have hE88 : bEn D E (col at_) np m key oth 88 (col at_) = E 88 (col at_) := by
    unfold bEn
    rw [if_neg (by omega), if_neg (by omega), if_neg (by omega), if_neg (by omega), if_neg (by omega), if_neg (by omega)]
  have hEn : ∀ j, 0 ≤ j → j < m → bEn D E (col at_) np m key oth 88 (np + j) = D 62 (3 * (6 * E 88 (col at_) + key) + j) ∧ bEn D E (col at_) np m key oth 89 (np + j) = 0 := by
    intro j h0 h1
    constructor
    · unfold bEn; rw [if_pos ⟨rfl, by omega, by omega⟩, show np + j - np = j by omega]
    · unfold bEn; rw [if_neg (fun z => absurd z.1 (by decide)), if_pos ⟨rfl, by omega, by omega⟩]
  have hcc : ∀ k, 0 ≤ k → k < w - 1 + m → (bCol col np at_ m k = np + (k - at_) ∧ at_ ≤ k ∧ k < at_ + m) ∨ (∃ k', (0 ≤ k' ∧ k' < w) ∧ k' ≠ at_ ∧ bCol col np at_ m k = col k' ∧ ((k < at_ ∧ k' = k) ∨ (at_ + m ≤ k ∧ k' = k - m + 1))) := by
    intro k h0 h1
    unfold bCol
    by_cases c1 : k < at_
    · rw [if_pos c1]; exact Or.inr ⟨k, by omega, by omega, rfl, by omega⟩
    · rw [if_neg c1]
      by_cases c2 : k < at_ + m
      · rw [if_pos c2]; exact Or.inl ⟨rfl, by omega, c2⟩
      · rw [if_neg c2]; exact Or.inr ⟨k - m + 1, by omega, by omega, rfl, by omega⟩
  have hty : ∀ j, 0 ≤ j → j < m → 0 ≤ D 62 (3 * (6 * E 88 (col at_) + key) + j) ∧ D 62 (3 * (6 * E 88 (col at_) + key) + j) < D 59 1 := by
    intro j h0 h1
    rw [hm] at h1
    unfold bMn at h1
    by_cases hz : oth = true ∨ E 88 (col at_) = 0
    · rw [if_pos hz] at h1; omega
    · rw [if_neg hz] at h1
      have h2 : oth = false := by cases oth <;> simp at hz ⊢
      have := hk h2 (fun z => hz (Or.inr z))
      exact (ht.2.2.2 _ key hca.2.2.1 hca.2.2.2 this.1 this.2).2 j h0 h1
  refine ⟨⟨by omega, by omega, fun k h0 h1 => ?_, fun j k j0 j1 k0 k1 hjk => ?_⟩, fun r' hr' => ?_, Nat.le_trans (bRs_len rows) hl⟩
  · rcases hcc k h0 h1 with ⟨h, h2, h3⟩ | ⟨k', hk', hk2, h, -⟩
    · rw [h]
      have := hEn (k - at_) (by omega) (by omega)
      rw [this.1, this.2]
      exact ⟨by omega, rfl, hty _ (by omega) (by omega)⟩
    · rw [h]
      have hc := hcol k' hk'.1 hk'.2
      have hne2 : col k' ≠ col at_ := fun z => hk2 (hinj k' at_ hk'.1 hk'.2 hat.1 hat.2 z)
      rw [hE _ (by omega) hne2 88, hE _ (by omega) hne2 89]
      exact ⟨by omega, hc.2⟩
  · rcases hcc j j0 j1 with ⟨h, h2, h3⟩ | ⟨j', hj', hj2, h, hj3⟩
    · rcases hcc k k0 k1 with ⟨g, g2, g3⟩ | ⟨k', hk', hk2, g, hk3⟩
      · omega
      · have := (hcol k' hk'.1 hk'.2).1; omega
    · rcases hcc k k0 k1 with ⟨g, g2, g3⟩ | ⟨k', hk', hk2, g, hk3⟩
      · have := (hcol j' hj'.1 hj'.2).1; omega
      · have := hinj j' k' hj'.1 hj'.2 hk'.1 hk'.2 (by omega)
        omega
  · obtain ⟨r, hr1, hr2, hr3⟩ := bRs_mem rows hr'
    subst hr2
    obtain ⟨r1, r2, r3⟩ := hr r hr1
    refine ⟨fun k h0 h1 => ?_, r2, fun x x0 x1 => ?_⟩
    · show bCl D at_ m r.2.1 k = -1 ∨ (isP D (bCl D at_ m r.2.1 k) ∧ D 68 (bCl D at_ m r.2.1 k) ≠ 0 ∧ D 68 (bCl D at_ m r.2.1 k) ≠ 3 ∧ D 69 (bCl D at_ m r.2.1 k) = bEn D E (col at_) np m key oth 88 (bCol col np at_ m k))
      unfold bCl
      rcases hcc k h0 h1 with ⟨h, h2, h3⟩ | ⟨k', hk', hk2, h, hk3⟩
      · rw [h, if_neg (by omega), if_pos h3, (hEn (k - at_) (by omega) (by omega)).1]
        rcases bPt_is (oth := oth) (key := key) (j := k - at_) hw ht (okT_at hw r1 hat (hne r hr1)) hr3 (by omega) (by rw [← hm]; omega) with h5 | ⟨h5, h6⟩
        · rw [h5, lF_neg (by omega)]; exact Or.inl rfl
        · rcases lF_T hw h5 with h7 | ⟨a, b, c, d⟩
          · exact Or.inl h7
          · exact Or.inr ⟨a, b, c, by rw [d, h6]⟩
      · have hc := hcol k' hk'.1 hk'.2
        have hne2 : col k' ≠ col at_ := fun z => hk2 (hinj k' at_ hk'.1 hk'.2 hat.1 hat.2 z)
        rw [h, hE _ (by omega) hne2 88]
        rcases hk3 with ⟨h5, h6⟩ | ⟨h5, h6⟩
        · rw [if_pos h5, ← h6]; exact r1 k' hk'.1 hk'.2
        · rw [if_neg (by omega), if_neg (by omega), ← h6]; exact r1 k' hk'.1 hk'.2
    · show bNm D (r.2.1 at_) np r.2.2 m.toNat x = -1 ∨ (0 ≤ bNm D (r.2.1 at_) np r.2.2 m.toNat x ∧ bNm D (r.2.1 at_) np r.2.2 m.toNat x < np + m)
      rcases bNm_is (D := D) (np := np) (p := r.2.1 at_) (nam := r.2.2) m.toNat x with h | h
      · rw [h]
        rcases r3 x x0 x1 with h | h
        · exact Or.inl h
        · right; omega
      · right; omega
end ABS2
