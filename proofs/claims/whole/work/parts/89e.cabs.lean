/-! ===== branches of a test, as the class makes them ===== -/
/-- how many rows nodes have together -/
def sumR : List aN → Nat
  | [] => 0
  | c :: l => c.2.2.2.2.length + sumR l
section CAB
variable {D E : xM} {w np at_ : Int} {col : Int → Int}
theorem sumR_app : ∀ l l2 : List aN, sumR (l ++ l2) = sumR l + sumR l2 := by
  intro l l2
  induction l with
  | nil => show sumR l2 = 0 + sumR l2; omega
  | cons x l ih =>
    show x.2.2.2.2.length + sumR (l ++ l2) = x.2.2.2.2.length + sumR l + sumR l2
    rw [ih]; omega
theorem sumR_le : ∀ l : List aN, (∀ c ∈ l, c.2.2.2.2.length ≤ 24) → sumR l ≤ 24 * l.length := by
  intro l
  induction l with
  | nil => intro _; exact Nat.le_refl _
  | cons x l ih =>
    intro h
    have h1 := h x (by simp)
    have h2 := ih (fun c hc => h c (by simp [hc]))
    show x.2.2.2.2.length + sumR l ≤ 24 * (l.length + 1)
    omega
theorem brs_ch (rows : List aR) : chT D w col np E at_ rows = (brs D (E 88 (col at_)) at_ rows).map (fun x => chB D w col np E at_ rows x.1 x.2) := by
  unfold chT brs
  rw [List.map_append, List.map_map]
  congr 1
  split <;> rfl
theorem bRs_sum {ty : Int} : ∀ (rows : List aR) (L : List (Int × Bool)), (∀ r ∈ rows, ∃ x ∈ L, r.2.1 at_ < 0 ∨ (x.2 = false ∧ D 70 (r.2.1 at_) = x.1)) → rows.length ≤ sumR (L.map (fun x => ((0 : Int), col, (0 : Int), E, bRs D np at_ (bMn D ty x.1 x.2) x.1 x.2 rows))) := by
  intro rows
  induction rows with
  | nil => intro L _; exact Nat.zero_le _
  | cons r rs ih =>
    intro L hL
    have h1 := ih L (fun q hq => hL q (by simp [hq]))
    obtain ⟨x, hx, hr⟩ := hL r (by simp)
    have h2 : ∀ L : List (Int × Bool), (sumR (L.map (fun x => ((0 : Int), col, (0 : Int), E, bRs D np at_ (bMn D ty x.1 x.2) x.1 x.2 rs))) ≤ sumR (L.map (fun x => ((0 : Int), col, (0 : Int), E, bRs D np at_ (bMn D ty x.1 x.2) x.1 x.2 (r :: rs))))) ∧ (x ∈ L → sumR (L.map (fun x => ((0 : Int), col, (0 : Int), E, bRs D np at_ (bMn D ty x.1 x.2) x.1 x.2 rs))) + 1 ≤ sumR (L.map (fun x => ((0 : Int), col, (0 : Int), E, bRs D np at_ (bMn D ty x.1 x.2) x.1 x.2 (r :: rs))))) := by
      intro L
      induction L with
      | nil => exact ⟨Nat.le_refl _, fun z => by cases z⟩
      | cons y L ih2 =>
        have e1 : ∀ q : List aR, sumR ((y :: L).map (fun x => ((0 : Int), col, (0 : Int), E, bRs D np at_ (bMn D ty x.1 x.2) x.1 x.2 q))) = (bRs D np at_ (bMn D ty y.1 y.2) y.1 y.2 q).length + sumR (L.map (fun x => ((0 : Int), col, (0 : Int), E, bRs D np at_ (bMn D ty x.1 x.2) x.1 x.2 q))) := fun _ => rfl
        have e2 : bRs D np at_ (bMn D ty y.1 y.2) y.1 y.2 (r :: rs) = if r.2.1 at_ < 0 ∨ (y.2 = false ∧ D 70 (r.2.1 at_) = y.1) then bRw D np at_ (bMn D ty y.1 y.2) r :: bRs D np at_ (bMn D ty y.1 y.2) y.1 y.2 rs else bRs D np at_ (bMn D ty y.1 y.2) y.1 y.2 rs := rfl
        have e3 : (bRs D np at_ (bMn D ty y.1 y.2) y.1 y.2 rs).length ≤ (bRs D np at_ (bMn D ty y.1 y.2) y.1 y.2 (r :: rs)).length := by
          rw [e2]; split
          · rw [List.length_cons]; omega
          · exact Nat.le_refl _
        rw [e1, e1]
        refine ⟨by have := ih2.1; omega, fun hxy => ?_⟩
        rcases List.mem_cons.mp hxy with z | z
        · subst z
          rw [e2, if_pos hr, List.length_cons]
          have := ih2.1; omega
        · have := ih2.2 z; omega
    have := (h2 L).2 hx
    rw [List.length_cons]; omega
/-- a test's branches have together no fewer rows than it -/
theorem chT_sum (rows : List aR) (hne : brs D (E 88 (col at_)) at_ rows ≠ []) : rows.length ≤ sumR (chT D w col np E at_ rows) := by
  have h := bRs_sum (D := D) (np := np) (at_ := at_) (col := col) (E := E) (ty := E 88 (col at_)) rows (brs D (E 88 (col at_)) at_ rows) (fun r hr => ?_)
  · rw [brs_ch]
    have e : ∀ L : List (Int × Bool), sumR (L.map (fun x => chB D w col np E at_ rows x.1 x.2)) = sumR (L.map (fun x => ((0 : Int), col, (0 : Int), E, bRs D np at_ (bMn D (E 88 (col at_)) x.1 x.2) x.1 x.2 rows))) := by
      intro L
      induction L with
      | nil => rfl
      | cons y L ih =>
        show _ + sumR (L.map _) = _ + sumR (L.map _)
        rw [ih]; rfl
    rw [e]; exact h
  · by_cases z : r.2.1 at_ < 0
    · cases hb : brs D (E 88 (col at_)) at_ rows with
      | nil => exact absurd hb hne
      | cons x l => exact ⟨x, by simp, Or.inl z⟩
    · refine ⟨(D 70 (r.2.1 at_), false), ?_, Or.inr ⟨rfl, rfl⟩⟩
      unfold brs
      refine List.mem_append_left _ (List.mem_map.mpr ⟨D 70 (r.2.1 at_), ?_, rfl⟩)
      exact (kys_mem rows []).mpr (Or.inr ⟨r, hr, by omega, rfl⟩)
end CAB
