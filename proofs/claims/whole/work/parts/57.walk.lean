/-! ===== a way through a tree by values, told without a machine ===== -/
section WLK
variable {D E : xM} {m w np at_ : Int} {col : Int → Int}
def nmv (va : Int → Int) (r : aR) : Int → Int := fun a => if r.2.2 a < 0 then -1 else va (r.2.2 a)
def vaN (D : xM) (va : Int → Int) (np q : Int) : Int → Int := fun x => if np ≤ x then D 66 (3 * va q + (x - np)) else va x
/-- tests, questions, the row that is taken, what its names stand for -/
noncomputable def wk (D : xM) (m : Int) : Nat → aN → (Int → Int) → Int × Int × Int × (Int → Int)
  | 0, _, _ => (0, 0, -1, fun _ => -1)
  | n + 1, a, va => match shp D a.1 a.2.1 a.2.2.2.2 with
    | none => (0, 0, -1, fun _ => -1)
    | some q => if q.2 < 0 then (match q.1 with
        | [] => (0, 0, -1, fun _ => -1)
        | r :: rs => if D 79 (12 * m + r.1) < 0 then (0, 0, r.1, nmv va r) else if D 65 (va (r.2.2 (D 79 (12 * m + r.1)))) < D 65 (va (r.2.2 (D 80 (12 * m + r.1)))) then (0, 1, r.1, nmv va r) else
            ((wk D m n (a.1, a.2.1, a.2.2.1, a.2.2.2.1, rs) va).1, (wk D m n (a.1, a.2.1, a.2.2.1, a.2.2.2.1, rs) va).2.1 + 1, (wk D m n (a.1, a.2.1, a.2.2.1, a.2.2.2.1, rs) va).2.2))
      else if D 65 (va (a.2.1 q.2)) ∈ kys D q.2 q.1 [] then ((wk D m n (chB D a.1 a.2.1 a.2.2.1 a.2.2.2.1 q.2 q.1 (D 65 (va (a.2.1 q.2))) false) (vaN D va a.2.2.1 (a.2.1 q.2))).1 + 1, (wk D m n (chB D a.1 a.2.1 a.2.2.1 a.2.2.2.1 q.2 q.1 (D 65 (va (a.2.1 q.2))) false) (vaN D va a.2.2.1 (a.2.1 q.2))).2)
      else if a.2.2.2.1 88 (a.2.1 q.2) = 0 ∨ ((kys D q.2 q.1 []).length : Int) < D 60 (a.2.2.2.1 88 (a.2.1 q.2)) then ((wk D m n (chB D a.1 a.2.1 a.2.2.1 a.2.2.2.1 q.2 q.1 (lA (kys D q.2 q.1 []) 0) true) va).1 + 1, (wk D m n (chB D a.1 a.2.1 a.2.2.1 a.2.2.2.1 q.2 q.1 (lA (kys D q.2 q.1 []) 0) true) va).2)
      else (1, 0, -1, fun _ => -1)
theorem wk_fail {n : Nat} {rows : List aR} {va : Int → Int} (h : shp D w col rows = some ([], -1)) : wk D m (n + 1) (w, col, np, E, rows) va = (0, 0, -1, fun _ => -1) := by
  unfold wk
  show (match shp D w col rows with | none => _ | some q => _) = _
  rw [h]
  rfl
theorem wk_leaf {n : Nat} {rows : List aR} {va : Int → Int} {r : aR} {rs : List aR} (h : shp D w col rows = some (r :: rs, -1)) : wk D m (n + 1) (w, col, np, E, rows) va = (if D 79 (12 * m + r.1) < 0 then (0, 0, r.1, nmv va r) else if D 65 (va (r.2.2 (D 79 (12 * m + r.1)))) < D 65 (va (r.2.2 (D 80 (12 * m + r.1)))) then (0, 1, r.1, nmv va r) else
            ((wk D m n (w, col, np, E, rs) va).1, (wk D m n (w, col, np, E, rs) va).2.1 + 1, (wk D m n (w, col, np, E, rs) va).2.2)) := by
  rw [wk]
  show (match shp D w col rows with | none => _ | some q => _) = _
  rw [h]
  rfl
theorem wk_test {n : Nat} {rows rows' : List aR} {va : Int → Int} (h : shp D w col rows = some (rows', at_)) (hat : 0 ≤ at_) : wk D m (n + 1) (w, col, np, E, rows) va = (if D 65 (va (col at_)) ∈ kys D at_ rows' [] then ((wk D m n (chB D w col np E at_ rows' (D 65 (va (col at_))) false) (vaN D va np (col at_))).1 + 1, (wk D m n (chB D w col np E at_ rows' (D 65 (va (col at_))) false) (vaN D va np (col at_))).2)
      else if E 88 (col at_) = 0 ∨ ((kys D at_ rows' []).length : Int) < D 60 (E 88 (col at_)) then ((wk D m n (chB D w col np E at_ rows' (lA (kys D at_ rows' []) 0) true) va).1 + 1, (wk D m n (chB D w col np E at_ rows' (lA (kys D at_ rows' []) 0) true) va).2)
      else (1, 0, -1, fun _ => -1)) := by
  rw [wk]
  show (match shp D w col rows with | none => _ | some q => _) = _
  rw [h]
  show (if at_ < 0 then _ else _) = _
  rw [if_neg (by omega)]
/-- what waits behind others is not too large either -/
theorem fin_suf : ∀ (n : Nat) (A B : List aN), fin_ D m n (A ++ B) ≠ none → ∃ k, k ≤ n ∧ fin_ D m k B ≠ none := by
  intro n
  induction n with
  | zero =>
    intro A B h
    cases A with
    | nil => exact ⟨0, Nat.le_refl _, h⟩
    | cons a A => exact absurd rfl h
  | succ n ih =>
    intro A B h
    cases A with
    | nil => exact ⟨n + 1, Nat.le_refl _, h⟩
    | cons a A =>
      cases hq : shp D a.1 a.2.1 a.2.2.2.2 with
      | none => exact absurd (fin_over (np := a.2.2.1) (E := a.2.2.2.1) hq) h
      | some q =>
        have e := fin_some (m := m) (np := a.2.2.1) (E := a.2.2.2.1) (S := A ++ B) (n := n) (rows' := q.1) (at_ := q.2) hq
        have h1 : fin_ D m n ((chd D m a.1 a.2.1 a.2.2.1 a.2.2.2.1 q.1 q.2 ++ A) ++ B) ≠ none := by
          intro z
          rw [List.append_assoc] at z
          rw [z] at e
          exact h e
        obtain ⟨k, hk, hk2⟩ := ih _ B h1
        exact ⟨k, by omega, hk2⟩
/-- a node of a tree that stands: what it comes to, and its branches stand -/
theorem fin_node {n : Nat} {rows : List aR} {rest : List aN} (h : fin_ D m n ((w, col, np, E, rows) :: rest) ≠ none) : ∃ n' rows' a, n = n' + 1 ∧ shp D w col rows = some (rows', a) ∧ ∀ c ∈ chd D m w col np E rows' a, ∃ k rest', k ≤ n' ∧ fin_ D m k (c :: rest') ≠ none := by
  cases n with
  | zero => exact absurd rfl h
  | succ n =>
    cases hq : shp D w col rows with
    | none => exact absurd (fin_over hq) h
    | some q =>
      refine ⟨n, q.1, q.2, rfl, rfl, fun c hc => ?_⟩
      have e := fin_some (m := m) (np := np) (E := E) (S := rest) (n := n) (rows' := q.1) (at_ := q.2) hq
      obtain ⟨A, B, hAB⟩ := List.append_of_mem hc
      have h1 : fin_ D m n (A ++ (c :: (B ++ rest))) ≠ none := by
        intro z
        rw [hAB, List.append_assoc, List.cons_append, z] at e
        exact h e
      obtain ⟨k, hk, hk2⟩ := fin_suf _ _ _ h1
      exact ⟨k, B ++ rest, hk, hk2⟩
/-- a name of a pattern -/
def nmb (D : xM) (p a : Int) : Prop := xand32 (xshr32 (D 73 p) a) 1 = 1
/-- the names of patterns are in order -/
def wfB (D : xM) : Prop := ∀ p, isP D p → ∀ a, 0 ≤ a → a < 16 →
  (D 68 p = 0 → (nmb D p a ↔ D 70 p = a)) ∧ (D 68 p = 1 → ¬ nmb D p a) ∧
  (D 68 p = 2 → (nmb D p a ↔ ∃ j, 0 ≤ j ∧ j < pct D p ∧ nmb D (prt D p j) a) ∧ ∀ i j, 0 ≤ i → i < j → j < pct D p → ¬ (nmb D (prt D p i) a ∧ nmb D (prt D p j) a)) ∧
  (D 68 p = 3 → (nmb D p a ↔ D 70 p = a ∨ nmb D (prt D p 0) a) ∧ ¬ (D 70 p = a ∧ nmb D (prt D p 0) a)) ∧
  (D 68 p = 4 → (nmb D p a ↔ nmb D (prt D p 0) a) ∧ (nmb D p a ↔ nmb D (prt D p 1) a))
/-- the names that a pattern tells, and those of what is left -/
theorem lF_nm (hw : wfP D) (hb : wfB D) {a : Int} (a0 : 0 ≤ a) (a1 : a < 16) : ∀ (n : Nat) (p : Int), isP D p → D 72 p ≤ (n : Int) → (nmb D p a ↔ tF D p a = true ∨ (0 ≤ lF D p ∧ nmb D (lF D p) a)) ∧ ¬ (tF D p a = true ∧ (0 ≤ lF D p ∧ nmb D (lF D p) a)) := by
  intro n
  induction n with
  | zero => intro p hp h; have := (hw.2 p hp).2.1; omega
  | succ n ih =>
    intro p hp h
    by_cases h3 : D 68 p = 3
    · obtain ⟨-, a3, -, t, b⟩ := (hw.2 p hp).2.2.2.2.2.2.2.1 h3
      rw [lF_3 hw hp h3, tF_3 hw hp h3]
      obtain ⟨i1, i2⟩ := ih (prt D p 0) a3 (by omega)
      obtain ⟨b1, b2⟩ := (hb p hp a a0 a1).2.2.2.1 h3
      rw [Bool.or_eq_true, beq_iff_eq]
      constructor
      · rw [b1, i1]
        constructor
        · rintro (h | h | h)
          · exact Or.inl (Or.inl h)
          · exact Or.inl (Or.inr h)
          · exact Or.inr h
        · rintro ((h | h) | h)
          · exact Or.inl h
          · exact Or.inr (Or.inl h)
          · exact Or.inr (Or.inr h)
      · rintro ⟨h | h, h'⟩
        · exact b2 ⟨h, i1.mpr (Or.inr h')⟩
        · exact i2 ⟨h, h'⟩
    · by_cases h0 : D 68 p = 0
      · rw [lF_0 hp h0, tF_0 hp h0, beq_iff_eq, ((hb p hp a a0 a1).1 h0)]
        constructor
        · constructor
          · exact Or.inl
          · rintro (h | ⟨h, -⟩)
            · exact h
            · omega
        · rintro ⟨-, h, -⟩; omega
      · rw [lF_o hp h0 h3, tF_o hp h0 h3]
        have := hp.1
        constructor
        · constructor
          · exact fun h => Or.inr ⟨this, h⟩
          · rintro (h | ⟨-, h⟩)
            · cases h
            · exact h
        · rintro ⟨h, -⟩; cases h
theorem lF_nm1 (hw : wfP D) (hb : wfB D) {p a : Int} (hp : isP D p) (a0 : 0 ≤ a) (a1 : a < 16) : (nmb D p a ↔ tF D p a = true ∨ (0 ≤ lF D p ∧ nmb D (lF D p) a)) ∧ ¬ (tF D p a = true ∧ (0 ≤ lF D p ∧ nmb D (lF D p) a)) := lF_nm hw hb a0 a1 40 p hp (hw.2 p hp).2.1.2
/-- a name stands at a place, or in a pattern that is still there -/
def hsN (D : xM) (w : Int) (r : aR) (a : Int) : Prop := 0 ≤ r.2.2 a ∨ ∃ k, (0 ≤ k ∧ k < w) ∧ 0 ≤ r.2.1 k ∧ nmb D (r.2.1 k) a
theorem hsN_spl (hw : wfP D) (hb : wfB D) (hc : okCo D w col np E) {r : aR} {x j a : Int} (h0 : 0 ≤ x) (h1 : x < w) (h : okT D w col E r) (hE : 0 ≤ r.2.1 x) (h4 : D 68 (r.2.1 x) = 4) (hj : 0 ≤ j) (hj2 : j < 2) (a0 : 0 ≤ a) (a1 : a < 16) (hh : hsN D w r a) : hsN D w (spl D col x r j) a := by
  rcases h x h0 h1 with hz | ⟨hp, -, -, -⟩
  · omega
  · obtain ⟨p1, -, -⟩ := ((hw.2 _ hp).2.2.2.2.2.2.2.2 h4).1 j hj hj2
    have hn := lF_nm1 hw hb p1 a0 a1
    rcases hh with hh | ⟨k, hk, hk1, hk2⟩
    · left
      show 0 ≤ (if tF D (prt D (r.2.1 x) j) a = true then col x else r.2.2 a)
      split
      · exact (hc.2.2.1 x h0 h1).1.1
      · exact hh
    · by_cases hkx : k = x
      · subst hkx
        have b4 := (hb _ hp a a0 a1).2.2.2.2 h4
        have hnj : nmb D (prt D (r.2.1 k) j) a := by
          by_cases z : j = 0
          · rw [z]; exact b4.1.mp hk2
          · have : j = 1 := by omega
            rw [this]; exact b4.2.mp hk2
        rcases hn.1.mp hnj with z | ⟨z1, z2⟩
        · left
          show 0 ≤ (if tF D (prt D (r.2.1 k) j) a = true then col k else r.2.2 a)
          rw [if_pos z]; exact (hc.2.2.1 k h0 h1).1.1
        · right
          refine ⟨k, hk, ?_, ?_⟩
          · show 0 ≤ uf r.2.1 k (lF D (prt D (r.2.1 k) j)) k
            unfold uf; rw [if_pos rfl]; exact z1
          · show nmb D (uf r.2.1 k (lF D (prt D (r.2.1 k) j)) k) a
            unfold uf; rw [if_pos rfl]; exact z2
      · right
        refine ⟨k, hk, ?_, ?_⟩
        · show 0 ≤ uf r.2.1 x (lF D (prt D (r.2.1 x) j)) k
          unfold uf; rw [if_neg hkx]; exact hk1
        · show nmb D (uf r.2.1 x (lF D (prt D (r.2.1 x) j)) k) a
          unfold uf; rw [if_neg hkx]; exact hk2
theorem bNm_ge {p a : Int} {nam : Int → Int} (hnp : 0 ≤ np) : ∀ (m : Nat), (0 ≤ nam a ∨ ∃ j, (0 ≤ j ∧ j < (m : Int)) ∧ tF D (bPt D p j) a = true) → 0 ≤ bNm D p np nam m a := by
  intro m
  induction m with
  | zero =>
    rintro (h | ⟨j, hj, -⟩)
    · exact h
    · omega
  | succ m ih =>
    intro h
    unfold bNm
    by_cases ht : tF D (bPt D p (m : Int)) a = true
    · rw [if_pos ht]; omega
    · rw [if_neg ht]
      refine ih ?_
      rcases h with h | ⟨j, hj, hj2⟩
      · exact Or.inl h
      · refine Or.inr ⟨j, ?_, hj2⟩
        have : j ≠ (m : Int) := fun z => ht (by rw [← z]; exact hj2)
        omega
theorem hsN_bRw (hw : wfP D) (ht : wfT D) (hb : wfB D) (hc : okCo D w col np E) {r : aR} {key a mm : Int} {oth : Bool} (hat : 0 ≤ at_ ∧ at_ < w) (h : okT D w col E r) (hne : ¬ (0 ≤ r.2.1 at_ ∧ D 68 (r.2.1 at_) = 4)) (hin : r.2.1 at_ < 0 ∨ (oth = false ∧ D 70 (r.2.1 at_) = key)) (hm : mm = bMn D (E 88 (col at_)) key oth) (hmr : 0 ≤ mm ∧ mm ≤ 3) (a0 : 0 ≤ a) (a1 : a < 16) (hh : hsN D w r a) : hsN D (w - 1 + mm) (bRw D np at_ mm r) a := by
  have hbn := bNm_ge (D := D) (np := np) (p := r.2.1 at_) (a := a) (nam := r.2.2) hc.2.1 mm.toNat
  rcases hh with hh | ⟨k, hk, hk1, hk2⟩
  · exact Or.inl (hbn (Or.inl hh))
  · by_cases hka : k = at_
    · subst hka
      have hat2 := okT_at hw h hat hne
      have hin2 : oth = false ∧ D 70 (r.2.1 k) = key := by
        rcases hin with z | z
        · omega
        · exact z
      rcases hat2 with z | ⟨hp, hty, hkd⟩
      · omega
      · rcases hkd with hkd | hkd
        · exact absurd hk2 ((hb _ hp a a0 a1).2.1 hkd)
        · obtain ⟨j, j0, j1, j2⟩ := ((hb _ hp a a0 a1).2.2.1 hkd).1.mp hk2
          have hpos := ((hw.2 _ hp).2.2.2.2.2.2.1 hkd).2.1
          have hmm : mm = pct D (r.2.1 k) := by
            rw [hm]; unfold bMn pct
            rw [if_neg (by rintro (y | y); rw [hin2.1] at y; cases y; omega), hty, hin2.2]
          have hbp : bPt D (r.2.1 k) j = prt D (r.2.1 k) j := by unfold bPt; rw [if_neg (by omega)]
          have hpj := (((hw.2 _ hp).2.2.2.2.2.2.1 hkd).2.2.1 j j0 j1).1
          rcases (lF_nm1 hw hb hpj a0 a1).1.mp j2 with z | ⟨z1, z2⟩
          · exact Or.inl (hbn (Or.inr ⟨j, by omega, by rw [hbp]; exact z⟩))
          · right
            have hcl : bCl D k mm r.2.1 (k + j) = lF D (prt D (r.2.1 k) j) := by
              unfold bCl; rw [if_neg (by omega), if_pos (by omega), show k + j - k = j by omega, hbp]
            exact ⟨k + j, by omega, by show 0 ≤ bCl D k mm r.2.1 (k + j); rw [hcl]; exact z1, by show nmb D (bCl D k mm r.2.1 (k + j)) a; rw [hcl]; exact z2⟩
    · right
      by_cases hlt : k < at_
      · have hcl : bCl D at_ mm r.2.1 k = r.2.1 k := by unfold bCl; rw [if_pos hlt]
        exact ⟨k, by omega, by show 0 ≤ bCl D at_ mm r.2.1 k; rw [hcl]; exact hk1, by show nmb D (bCl D at_ mm r.2.1 k) a; rw [hcl]; exact hk2⟩
      · have hcl : bCl D at_ mm r.2.1 (k + mm - 1) = r.2.1 k := by unfold bCl; rw [if_neg (by omega), if_neg (by omega), show k + mm - 1 - mm + 1 = k by omega]
        exact ⟨k + mm - 1, by omega, by show 0 ≤ bCl D at_ mm r.2.1 (k + mm - 1); rw [hcl]; exact hk1, by show nmb D (bCl D at_ mm r.2.1 (k + mm - 1)) a; rw [hcl]; exact hk2⟩
/-- a guard's names are there -/
def gdI (D : xM) (m w : Int) (r : aR) : Prop := 0 ≤ D 79 (12 * m + r.1) → ∀ a, (a = D 79 (12 * m + r.1) ∨ a = D 80 (12 * m + r.1)) → (0 ≤ a ∧ a < 16) ∧ hsN D w r a
end WLK
