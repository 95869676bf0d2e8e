/-! ===== the tree of a match, told without a machine: rows, their splitting, tests, branches, and the list of its nodes ===== -/
/-- a row in the making: its number, what stands in its columns (-1 for ANY), the places of its names -/
abbrev aR : Type := Int × (Int → Int) × (Int → Int)
/-- a node: how many columns, their places, how many places there are, what is known of places, rows -/
abbrev aN : Type := Int × (Int → Int) × Int × xM × List aR
section ABS
variable {D : xM}
def isE (D : xM) (r : aR) (at_ : Int) : Prop := 0 ≤ r.2.1 at_ ∧ D 68 (r.2.1 at_) = 4
noncomputable def spl (D : xM) (col : Int → Int) (at_ : Int) (r : aR) (j : Int) : aR :=
  (r.1, uf r.2.1 at_ (lF D (prt D (r.2.1 at_) j)), fun x => if tF D (prt D (r.2.1 at_) j) x = true then col at_ else r.2.2 x)
/-- the first row is split as long as EITHER stands first in it -/
noncomputable def nF (D : xM) (w : Int) (col : Int → Int) : Nat → List aR → Option (List aR)
  | 0, _ => none
  | _ + 1, [] => some []
  | n + 1, r :: rs => if 0 ≤ fOp r.2.1 w.toNat 0 ∧ 0 ≤ r.2.1 (fOp r.2.1 w.toNat 0) ∧ D 68 (r.2.1 (fOp r.2.1 w.toNat 0)) = 4 then
      (if rs.length = 23 then none else nF D w col n (spl D col (fOp r.2.1 w.toNat 0) r 0 :: spl D col (fOp r.2.1 w.toNat 0) r 1 :: rs)) else some (r :: rs)
/-- all rows are split at one column -/
noncomputable def nA (D : xM) (col : Int → Int) (at_ : Int) : Nat → List aR → List aR → Option (List aR)
  | 0, _, _ => none
  | _ + 1, dn, [] => some dn
  | n + 1, dn, r :: rs => if 0 ≤ r.2.1 at_ ∧ D 68 (r.2.1 at_) = 4 then
      (if dn.length + rs.length = 23 then none else nA D col at_ n dn (spl D col at_ r 0 :: spl D col at_ r 1 :: rs)) else nA D col at_ n (dn ++ [r]) rs
/-- what a node comes to: more than 24 rows; or its rows, and the column that is tested (-1: none) -/
noncomputable def shp (D : xM) (w : Int) (col : Int → Int) (rows : List aR) : Option (List aR × Int) :=
  match nF D w col 25 rows with
  | none => none
  | some [] => some ([], -1)
  | some (r :: rs) => if fOp r.2.1 w.toNat 0 < 0 then some (r :: rs, -1) else (nA D col (fOp r.2.1 w.toNat 0) 50 [] (r :: rs)).map (fun q => (q, fOp r.2.1 w.toNat 0))
def ins (x : Int) : List Int → List Int
  | [] => [x]
  | y :: l => if y < x then y :: ins x l else if y = x then y :: l else x :: y :: l
/-- the heads that stand in a column, the least first -/
def kys (D : xM) (at_ : Int) : List aR → List Int → List Int
  | [], l => l
  | r :: rs, l => kys D at_ rs (if 0 ≤ r.2.1 at_ then ins (D 70 (r.2.1 at_)) l else l)
/-- the least from x on that is not there -/
def lA : List Int → Int → Int
  | [], x => x
  | y :: l, x => lA l (if y = x then x + 1 else x)
/-- how many parts come in the place of a column -/
noncomputable def bMn (D : xM) (ty key : Int) (oth : Bool) : Int := if oth = true ∨ ty = 0 then 0 else D 61 (6 * ty + key)
def bCol (col : Int → Int) (np at_ m : Int) : Int → Int := fun k => if k < at_ then col k else if k < at_ + m then np + (k - at_) else col (k - m + 1)
noncomputable def bPt (D : xM) (p j : Int) : Int := if p < 0 then -1 else prt D p j
noncomputable def bNm (D : xM) (p np : Int) (nam : Int → Int) : Nat → Int → Int
  | 0, x => nam x
  | j + 1, x => if tF D (bPt D p j) x = true then np + j else bNm D p np nam j x
noncomputable def bCl (D : xM) (at_ m : Int) (cell : Int → Int) : Int → Int := fun k => if k < at_ then cell k else if k < at_ + m then lF D (bPt D (cell at_) (k - at_)) else cell (k - m + 1)
/-- a row behind a test -/
noncomputable def bRw (D : xM) (np at_ m : Int) (r : aR) : aR := (r.1, bCl D at_ m r.2.1, bNm D (r.2.1 at_) np r.2.2 m.toNat)
def bIn (D : xM) (at_ key : Int) (oth : Bool) (r : aR) : Prop := r.2.1 at_ < 0 ∨ (oth = false ∧ D 70 (r.2.1 at_) = key)
noncomputable def bRs (D : xM) (np at_ m key : Int) (oth : Bool) : List aR → List aR
  | [] => []
  | r :: rs => if r.2.1 at_ < 0 ∨ (oth = false ∧ D 70 (r.2.1 at_) = key) then bRw D np at_ m r :: bRs D np at_ m key oth rs else bRs D np at_ m key oth rs
noncomputable def bEn (D : xM) (E : xM) (q np m key : Int) (oth : Bool) : xM := fun c i =>
  if (c = 88 ∧ np ≤ i ∧ i < np + m) then D 62 (3 * (6 * E 88 q + key) + (i - np)) else if (c = 89 ∧ np ≤ i ∧ i < np + m) then 0 else
  if i = q ∧ c = 89 then 1 else if i = q ∧ c = 90 then key else if i = q ∧ c = 91 then (if oth = true then 1 else 0) else if i = q ∧ c = 92 then np else E c i
/-- a branch of a test -/
noncomputable def chB (D : xM) (w : Int) (col : Int → Int) (np : Int) (E : xM) (at_ : Int) (rows : List aR) (key : Int) (oth : Bool) : aN :=
  (w - 1 + bMn D (E 88 (col at_)) key oth, bCol col np at_ (bMn D (E 88 (col at_)) key oth), np + bMn D (E 88 (col at_)) key oth, bEn D E (col at_) np (bMn D (E 88 (col at_)) key oth) key oth, bRs D np at_ (bMn D (E 88 (col at_)) key oth) key oth rows)
noncomputable def chT (D : xM) (w : Int) (col : Int → Int) (np : Int) (E : xM) (at_ : Int) (rows : List aR) : List aN :=
  (kys D at_ rows []).map (fun k => chB D w col np E at_ rows k false) ++ (if E 88 (col at_) = 0 ∨ ((kys D at_ rows []).length : Int) < D 60 (E 88 (col at_)) then [chB D w col np E at_ rows (lA (kys D at_ rows []) 0) true] else [])
/-- what a node goes on with -/
noncomputable def chd (D : xM) (m w : Int) (col : Int → Int) (np : Int) (E : xM) (rows : List aR) (at_ : Int) : List aN :=
  if at_ < 0 then (match rows with | [] => [] | r :: rs => if D 79 (12 * m + r.1) < 0 then [] else [(w, col, np, E, rs)]) else chT D w col np E at_ rows
/-- what it is: 0 a test, 1 a question, 2 taken, 3 a failure; the row; what is known of places -/
abbrev aV : Type := Int × Int × xM
noncomputable def evt (D : xM) (m : Int) (E : xM) (rows : List aR) (at_ : Int) : aV :=
  if at_ < 0 then (match rows with | [] => (3, 0, E) | r :: _ => if D 79 (12 * m + r.1) < 0 then (2, r.1, E) else (1, r.1, E)) else (0, 0, E)
/-- the nodes in order; none: too large -/
noncomputable def fin_ (D : xM) (m : Int) : Nat → List aN → Option (List aV)
  | _, [] => some []
  | 0, _ :: _ => none
  | n + 1, a :: S => match shp D a.1 a.2.1 a.2.2.2.2 with
    | none => none
    | some q => (fin_ D m n (chd D m a.1 a.2.1 a.2.2.1 a.2.2.2.1 q.1 q.2 ++ S)).map (fun l => evt D m a.2.2.2.1 q.1 q.2 :: l)
theorem fin_nil {m : Int} {n : Nat} : fin_ D m n [] = some [] := by cases n <;> rfl
theorem fin_0 {m : Int} {a : aN} {S : List aN} : fin_ D m 0 (a :: S) = none := rfl
theorem fin_over {m w np : Int} {col : Int → Int} {E : xM} {rows : List aR} {S : List aN} {n : Nat} (h : shp D w col rows = none) : fin_ D m n ((w, col, np, E, rows) :: S) = none := by
  cases n with
  | zero => rfl
  | succ n => show (match shp D w col rows with | none => none | some q => _) = none; rw [h]
theorem fin_some {m w np at_ : Int} {col : Int → Int} {E : xM} {rows rows' : List aR} {S : List aN} {n : Nat} (h : shp D w col rows = some (rows', at_)) : fin_ D m (n + 1) ((w, col, np, E, rows) :: S) = (fin_ D m n (chd D m w col np E rows' at_ ++ S)).map (fun l => evt D m E rows' at_ :: l) := by
  show (match shp D w col rows with | none => none | some q => _) = _
  rw [h]
/-- a tree that stands has no fewer nodes than wait -/
theorem fin_len {m : Int} : ∀ (n : Nat) (S : List aN), fin_ D m n S ≠ none → S.length ≤ n := by
  intro n
  induction n with
  | zero => intro S h; cases S with
    | nil => exact Nat.le_refl _
    | cons a S => exact absurd rfl h
  | succ n ih => intro S h; cases S with
    | nil => exact Nat.zero_le _
    | cons a S =>
      cases hq : shp D a.1 a.2.1 a.2.2.2.2 with
      | none => exact absurd (fin_over (np := a.2.2.1) (E := a.2.2.2.1) hq) h
      | some q =>
        have e := fin_some (m := m) (np := a.2.2.1) (E := a.2.2.2.1) (S := S) (n := n) (rows' := q.1) (at_ := q.2) hq
        have h1 : fin_ D m n (chd D m a.1 a.2.1 a.2.2.1 a.2.2.2.1 q.1 q.2 ++ S) ≠ none := by
          intro z
          rw [z] at e
          exact h e
        have := ih _ h1
        rw [List.length_append] at this
        show S.length + 1 ≤ n + 1
        omega
/-- the least not there, and heads in order -/
theorem ins_mem {x y : Int} : ∀ l, y ∈ ins x l ↔ y = x ∨ y ∈ l := by
  intro l
  induction l with
  | nil => simp [ins]
  | cons z l ih =>
    unfold ins
    by_cases h1 : z < x
    · rw [if_pos h1, List.mem_cons, ih, List.mem_cons]
      constructor
      · rintro (h | h | h) <;> simp [h]
      · rintro (h | h | h) <;> simp [h]
    · rw [if_neg h1]
      by_cases h2 : z = x
      · rw [if_pos h2, List.mem_cons]
        constructor
        · rintro (h | h) <;> simp [h]
        · rintro (h | h | h)
          · left; omega
          · left; exact h
          · right; exact h
      · rw [if_neg h2]
        simp
theorem ins_ord {x : Int} : ∀ l : List Int, l.Pairwise (· < ·) → (ins x l).Pairwise (· < ·) := by
  intro l
  induction l with
  | nil => intro _; simp [ins]
  | cons z l ih =>
    intro h
    rw [List.pairwise_cons] at h
    unfold ins
    by_cases h1 : z < x
    · rw [if_pos h1, List.pairwise_cons]
      refine ⟨fun y hy => ?_, ih h.2⟩
      rcases (ins_mem l).mp hy with h3 | h3
      · omega
      · exact h.1 y h3
    · rw [if_neg h1]
      by_cases h2 : z = x
      · rw [if_pos h2, List.pairwise_cons]; exact h
      · rw [if_neg h2, List.pairwise_cons]
        refine ⟨fun y hy => ?_, by rw [List.pairwise_cons]; exact h⟩
        rcases List.mem_cons.mp hy with h3 | h3
        · omega
        · have := h.1 y h3; omega
theorem kys_ord {at_ : Int} : ∀ (rs : List aR) (l : List Int), l.Pairwise (· < ·) → (kys D at_ rs l).Pairwise (· < ·) := by
  intro rs
  induction rs with
  | nil => intro l h; exact h
  | cons r rs ih =>
    intro l h
    unfold kys
    by_cases h1 : 0 ≤ r.2.1 at_
    · rw [if_pos h1]; exact ih _ (ins_ord l h)
    · rw [if_neg h1]; exact ih _ h
theorem kys_mem {at_ y : Int} : ∀ (rs : List aR) (l : List Int), y ∈ kys D at_ rs l ↔ y ∈ l ∨ ∃ r ∈ rs, 0 ≤ r.2.1 at_ ∧ D 70 (r.2.1 at_) = y := by
  intro rs
  induction rs with
  | nil => intro l; simp [kys]
  | cons r rs ih =>
    intro l
    unfold kys
    rw [ih]
    by_cases h1 : 0 ≤ r.2.1 at_
    · rw [if_pos h1, ins_mem]
      constructor
      · rintro ((h | h) | ⟨r', h, h2⟩)
        · exact Or.inr ⟨r, by simp, h1, h.symm⟩
        · exact Or.inl h
        · exact Or.inr ⟨r', by simp [h], h2⟩
      · rintro (h | ⟨r', h, h2⟩)
        · exact Or.inl (Or.inr h)
        · rcases List.mem_cons.mp h with h3 | h3
          · subst h3; exact Or.inl (Or.inl h2.2.symm)
          · exact Or.inr ⟨r', h3, h2⟩
    · rw [if_neg h1]
      constructor
      · rintro (h | ⟨r', h, h2⟩)
        · exact Or.inl h
        · exact Or.inr ⟨r', by simp [h], h2⟩
      · rintro (h | ⟨r', h, h2⟩)
        · exact Or.inl h
        · rcases List.mem_cons.mp h with h3 | h3
          · subst h3; exact absurd h2.1 h1
          · exact Or.inr ⟨r', h3, h2⟩
theorem kys_len {at_ : Int} : ∀ (rs : List aR) (l : List Int), (kys D at_ rs l).length ≤ rs.length + l.length := by
  have hi : ∀ (x : Int) (l : List Int), (ins x l).length ≤ l.length + 1 := by
    intro x l
    induction l with
    | nil => simp [ins]
    | cons z l ih =>
      unfold ins
      split
      · simp; omega
      · split <;> simp
  intro rs
  induction rs with
  | nil => intro l; simp [kys]
  | cons r rs ih =>
    intro l
    unfold kys
    refine Nat.le_trans (ih _) ?_
    rw [List.length_cons]
    split
    · have := hi (D 70 (r.2.1 at_)) l; omega
    · omega
theorem lA_ge : ∀ (l : List Int) (x : Int), x ≤ lA l x := by
  intro l
  induction l with
  | nil => intro x; exact Int.le_refl _
  | cons y l ih =>
    intro x
    unfold lA
    refine Int.le_trans ?_ (ih _)
    split <;> omega
theorem lA_le : ∀ (l : List Int) (x : Int), lA l x ≤ x + l.length := by
  intro l
  induction l with
  | nil => intro x; simp [lA]
  | cons y l ih =>
    intro x
    unfold lA
    have := ih (if y = x then x + 1 else x)
    rw [List.length_cons]
    split at this <;> split <;> omega
/-- all from x on below the least that is not there are there, and it is not -/
theorem lA_is : ∀ (l : List Int) (x : Int), l.Pairwise (· < ·) → lA l x ∉ l ∧ ∀ y, x ≤ y → y < lA l x → y ∈ l := by
  intro l
  induction l with
  | nil => intro x _; exact ⟨by simp, fun y h1 h2 => by simp [lA] at h2; omega⟩
  | cons z l ih =>
    intro x h
    rw [List.pairwise_cons] at h
    unfold lA
    by_cases h1 : z = x
    · rw [if_pos h1]
      obtain ⟨ha, hb⟩ := ih (x + 1) h.2
      have hge := lA_ge l (x + 1)
      refine ⟨fun hm => ?_, fun y hy1 hy2 => ?_⟩
      · rcases List.mem_cons.mp hm with h3 | h3
        · omega
        · exact ha h3
      · by_cases h4 : y = x
        · simp [h4, h1]
        · exact List.mem_cons_of_mem _ (hb y (by omega) hy2)
    · rw [if_neg h1]
      obtain ⟨ha, hb⟩ := ih x h.2
      refine ⟨fun hm => ?_, fun y hy1 hy2 => List.mem_cons_of_mem _ (hb y hy1 hy2)⟩
      rcases List.mem_cons.mp hm with h3 | h3
      · have hge := lA_ge l x
        have : x ∈ l := hb x (Int.le_refl _) (by omega)
        have := h.1 x this
        omega
      · exact ha h3
end ABS
