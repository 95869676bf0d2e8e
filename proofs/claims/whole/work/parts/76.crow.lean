/-! ===== the class: a state of the builder is a row ===== -/
section CRW
variable {D E : xM}
theorem tlF_mem (hw : wfP D) {a : Int} (a0 : 0 ≤ a) : ∀ (n : Nat) (p : Int), isP D p → D 72 p ≤ (n : Int) → (a ∈ tlF D p ↔ tF D p a = true) := by
  intro n
  induction n with
  | zero => intro p hp h; have := (hw.2 p hp).2.1; omega
  | succ n ih =>
    intro p hp h
    by_cases h3 : D 68 p = 3
    · obtain ⟨-, x, -, -, b⟩ := (hw.2 p hp).2.2.2.2.2.2.2.1 h3
      rw [tlF_3 hw hp h3, tF_3 hw hp h3, List.mem_cons, Bool.or_eq_true, beq_iff_eq, ih _ x (by omega)]
      constructor
      · rintro (z | z)
        · exact Or.inl z.symm
        · exact Or.inr z
      · rintro (z | z)
        · exact Or.inl z.symm
        · exact Or.inr z
    · by_cases h0 : D 68 p = 0
      · rw [tlF_0 h0, tF_0 hp h0, beq_iff_eq]
        by_cases z : D 70 p < 0
        · rw [if_pos z]
          constructor
          · intro y; cases y
          · intro y; omega
        · rw [if_neg z, List.mem_singleton]
          exact eq_comm
      · rw [tlF_o h0 h3, tF_o hp h0 h3]; simp
theorem tlF_rg (hw : wfP D) {a : Int} : ∀ (n : Nat) (p : Int), isP D p → D 72 p ≤ (n : Int) → a ∈ tlF D p → 0 ≤ a ∧ a < 16 := by
  intro n
  induction n with
  | zero => intro p hp h; have := (hw.2 p hp).2.1; omega
  | succ n ih =>
    intro p hp h hm
    by_cases h3 : D 68 p = 3
    · obtain ⟨y, x, -, -, b⟩ := (hw.2 p hp).2.2.2.2.2.2.2.1 h3
      rw [tlF_3 hw hp h3, List.mem_cons] at hm
      rcases hm with z | z
      · omega
      · exact ih _ x (by omega) z
    · by_cases h0 : D 68 p = 0
      · have := (hw.2 p hp).2.2.2.2.1 h0
        rw [tlF_0 h0] at hm
        split at hm
        · cases hm
        · rw [List.mem_singleton] at hm; omega
      · rw [tlF_o h0 h3] at hm; cases hm
theorem tlF_nd (hw : wfP D) (hb : wfB D) : ∀ (n : Nat) (p : Int), isP D p → D 72 p ≤ (n : Int) → (tlF D p).Nodup := by
  intro n
  induction n with
  | zero => intro p hp h; have := (hw.2 p hp).2.1; omega
  | succ n ih =>
    intro p hp h
    by_cases h3 : D 68 p = 3
    · obtain ⟨y, x, -, -, b⟩ := (hw.2 p hp).2.2.2.2.2.2.2.1 h3
      rw [tlF_3 hw hp h3, List.nodup_cons]
      refine ⟨fun hm => ?_, ih _ x (by omega)⟩
      have ht := (tlF_mem hw y.1 n _ x (by omega)).mp hm
      have hn := (lF_nm1 hw hb x y.1 y.2).1.mpr (Or.inl ht)
      exact ((hb p hp _ y.1 y.2).2.2.2.1 h3).2 ⟨rfl, hn⟩
    · by_cases h0 : D 68 p = 0
      · rw [tlF_0 h0]; split <;> simp
      · rw [tlF_o h0 h3]; simp
theorem nd_rev {l : List Int} (h : l.Nodup) : l.reverse.Nodup := List.pairwise_reverse.mpr (List.Pairwise.imp (fun h => Ne.symm h) h)
/-- a row's names in a list: each once, at its place -/
def nmK (π nam : Int → Int) (l : List (Int × Int)) : Prop := (∀ x ∈ l, (0 ≤ x.2 ∧ x.2 < 16) ∧ 0 ≤ nam x.2 ∧ x.1 = π (nam x.2)) ∧ (∀ a, 0 ≤ a → a < 16 → 0 ≤ nam a → (π (nam a), a) ∈ l) ∧ (l.map (fun x => x.2)).Nodup
theorem nmK_strip (hw : wfP D) (hb : wfB D) {π nam : Int → Int} {l : List (Int × Int)} {p q : Int} (hp : isP D p) (hq : 0 ≤ q) (h : nmK π nam l) (hno : ∀ a, 0 ≤ a → a < 16 → tF D p a = true → nam a < 0) : nmK π (fun x => if tF D p x = true then q else nam x) ((tlF D p).reverse.map (fun a => (π q, a)) ++ l) := by
  obtain ⟨h1, h2, h3⟩ := h
  have hwt := (hw.2 p hp).2.1.2
  have hm : ∀ a, 0 ≤ a → (a ∈ tlF D p ↔ tF D p a = true) := fun a a0 => tlF_mem hw a0 40 p hp hwt
  refine ⟨fun x hx => ?_, fun a a0 a1 ha => ?_, ?_⟩
  · rcases List.mem_append.mp hx with z | z
    · obtain ⟨a, ha, rfl⟩ := List.mem_map.mp z
      rw [List.mem_reverse] at ha
      have hr := tlF_rg hw 40 p hp hwt ha
      have ht := (hm a hr.1).mp ha
      refine ⟨hr, ?_, ?_⟩
      · show 0 ≤ (if tF D p a = true then q else nam a); rw [if_pos ht]; exact hq
      · show π q = π (if tF D p a = true then q else nam a); rw [if_pos ht]
    · obtain ⟨u1, u2, u3⟩ := h1 x z
      have ht : ¬ tF D p x.2 = true := fun y => by have := hno _ u1.1 u1.2 y; omega
      refine ⟨u1, ?_, ?_⟩
      · show 0 ≤ (if tF D p x.2 = true then q else nam x.2); rw [if_neg ht]; exact u2
      · show x.1 = π (if tF D p x.2 = true then q else nam x.2); rw [if_neg ht]; exact u3
  · show (π (if tF D p a = true then q else nam a), a) ∈ _
    have ha : 0 ≤ (if tF D p a = true then q else nam a) := ha
    by_cases ht : tF D p a = true
    · rw [if_pos ht]
      exact List.mem_append_left _ (List.mem_map.mpr ⟨a, by rw [List.mem_reverse]; exact (hm a a0).mpr ht, rfl⟩)
    · rw [if_neg ht] at ha ⊢
      exact List.mem_append_right _ (h2 a a0 a1 ha)
  · rw [List.map_append, List.map_map]
    have e1 : (fun x : Int × Int => x.2) ∘ (fun a => (π q, a)) = id := rfl
    rw [e1, List.map_id, List.nodup_append]
    refine ⟨nd_rev (tlF_nd hw hb 40 p hp hwt), h3, fun a ha b hb2 hab => ?_⟩
    rw [List.mem_reverse] at ha
    obtain ⟨x, hx, rfl⟩ := List.mem_map.mp hb2
    obtain ⟨u1, u2, u3⟩ := h1 x hx
    have hr := tlF_rg hw 40 p hp hwt ha
    have := hno a hr.1 hr.2 ((hm a hr.1).mp ha)
    rw [hab] at this
    omega
/-- a row's open columns -/
def opn (π col cell : Int → Int) : Nat → Int → List (Int × Int)
  | 0, _ => []
  | n + 1, k => (if cell k < 0 then [] else [(π (col k), cell k)]) ++ opn π col cell n (k + 1)
theorem opn_cg {π π' col col' cell cell' : Int → Int} : ∀ (n : Nat) (k k' : Int), (∀ j : Nat, j < n → cell (k + j) = cell' (k' + j) ∧ (0 ≤ cell (k + j) → π (col (k + j)) = π' (col' (k' + j)))) → opn π col cell n k = opn π' col' cell' n k' := by
  intro n
  induction n with
  | zero => intro k k' _; rfl
  | succ n ih =>
    intro k k' h
    unfold opn
    have h0 := h 0 (by omega)
    rw [show k + ((0 : Nat) : Int) = k by omega, show k' + ((0 : Nat) : Int) = k' by omega] at h0
    rw [ih (k + 1) (k' + 1) (fun j hj => by have := h (j + 1) (by omega); rw [show k + ((j + 1 : Nat) : Int) = k + 1 + j by omega, show k' + ((j + 1 : Nat) : Int) = k' + 1 + j by omega] at this; exact this), h0.1]
    by_cases z : cell' k' < 0
    · rw [if_pos z, if_pos z]
    · rw [if_neg z, if_neg z, h0.2 (by omega)]
theorem opn_app {π col cell : Int → Int} : ∀ (a b : Nat) (k : Int), opn π col cell (a + b) k = opn π col cell a k ++ opn π col cell b (k + a) := by
  intro a
  induction a with
  | zero => intro b k; rw [Nat.zero_add, show k + ((0 : Nat) : Int) = k by omega]; rfl
  | succ a ih =>
    intro b k
    rw [show a + 1 + b = (a + b) + 1 by omega]
    show (if cell k < 0 then [] else [(π (col k), cell k)]) ++ opn π col cell (a + b) (k + 1) = ((if cell k < 0 then [] else [(π (col k), cell k)]) ++ opn π col cell a (k + 1)) ++ _
    rw [ih b (k + 1), List.append_assoc, show k + 1 + (a : Int) = k + ((a + 1 : Nat) : Int) by omega]
theorem opn_mem {π col cell : Int → Int} {x : Int × Int} : ∀ (n : Nat) (k : Int), x ∈ opn π col cell n k → ∃ j, (k ≤ j ∧ j < k + n) ∧ 0 ≤ cell j ∧ x = (π (col j), cell j) := by
  intro n
  induction n with
  | zero => intro k h; cases h
  | succ n ih =>
    intro k h
    unfold opn at h
    rcases List.mem_append.mp h with z | z
    · split at z
      · cases z
      · rename_i hc
        rw [List.mem_singleton] at z
        exact ⟨k, by omega, by omega, z⟩
    · obtain ⟨j, h1, h2, h3⟩ := ih (k + 1) z
      exact ⟨j, by omega, h2, h3⟩
theorem opn_fd {π col cell : Int → Int} {j : Int} : ∀ (n : Nat) (k : Int), k ≤ j → j < k + n → (∀ i, k ≤ i → i < k + n → i ≠ j → π (col i) ≠ π (col j)) → fdL (π (col j)) (opn π col cell n k) = (if cell j < 0 then -1 else cell j) := by
  intro n
  induction n with
  | zero => intro k h1 h2; omega
  | succ n ih =>
    intro k h1 h2 h3
    unfold opn
    by_cases z : k = j
    · subst z
      have hrest : fdL (π (col k)) (opn π col cell n (k + 1)) = -1 := by
        have : ∀ l : List (Int × Int), (∀ x ∈ l, x.1 ≠ π (col k)) → fdL (π (col k)) l = -1 := by
          intro l
          induction l with
          | nil => intro _; rfl
          | cons x l ih2 => intro hx; unfold fdL; rw [if_neg (hx x (by simp))]; exact ih2 (fun y hy => hx y (by simp [hy]))
        refine this _ (fun x hx => ?_)
        obtain ⟨i, hi, -, rfl⟩ := opn_mem n (k + 1) hx
        exact h3 i (by omega) (by omega) (by omega)
      by_cases c : cell k < 0
      · rw [if_pos c, if_pos c, List.nil_append]; exact hrest
      · rw [if_neg c, if_neg c]
        show fdL (π (col k)) ((π (col k), cell k) :: _) = _
        unfold fdL; rw [if_pos rfl]
    · have ih := ih (k + 1) (by omega) (by omega) (fun i i0 i1 i2 => h3 i (by omega) (by omega) i2)
      by_cases c : cell k < 0
      · rw [if_pos c, List.nil_append]; exact ih
      · rw [if_neg c]
        show fdL (π (col j)) ((π (col k), cell k) :: _) = _
        unfold fdL
        rw [if_neg (h3 k (by omega) (by omega) z)]
        exact ih
/-- how much a list of patterns weighs -/
def pL (D : xM) : List (Int × Int) → Int
  | [] => 0
  | x :: l => (2 * D 72 x.2 + 1) + pL D l
theorem pL_app : ∀ (a b : List (Int × Int)), pL D (a ++ b) = pL D a + pL D b := by
  intro a b
  induction a with
  | nil => show pL D b = 0 + pL D b; omega
  | cons x a ih => show (2 * D 72 x.2 + 1) + pL D (a ++ b) = ((2 * D 72 x.2 + 1) + pL D a) + pL D b; omega
theorem pL_ge (hw : wfP D) : ∀ l : List (Int × Int), (∀ x ∈ l, isP D x.2) → 3 * (l.length : Int) ≤ pL D l := by
  intro l
  induction l with
  | nil => intro _; exact Int.le_refl _
  | cons x l ih =>
    intro h
    have := (hw.2 _ (h x (by simp))).2.1
    have := ih (fun y hy => h y (by simp [hy]))
    show 3 * ((l.length + 1 : Nat) : Int) ≤ (2 * D 72 x.2 + 1) + pL D l
    omega
/-- stripping names makes nothing heavier -/
theorem lF_wt (hw : wfP D) : ∀ (n : Nat) (p : Int), isP D p → D 72 p ≤ (n : Int) → (if lF D p < 0 then 0 else 2 * D 72 (lF D p) + 1) + 2 * ((tlF D p).length : Int) ≤ 2 * D 72 p + 1 := by
  intro n
  induction n with
  | zero => intro p hp h; have := (hw.2 p hp).2.1; omega
  | succ n ih =>
    intro p hp h
    have h1 := (hw.2 p hp).2.1
    by_cases h3 : D 68 p = 3
    · obtain ⟨-, a, -, -, b⟩ := (hw.2 p hp).2.2.2.2.2.2.2.1 h3
      rw [tlF_3 hw hp h3, lF_3 hw hp h3, List.length_cons]
      have := ih _ a (by omega)
      omega
    · by_cases h0 : D 68 p = 0
      · rw [tlF_0 h0, lF_0 hp h0, if_pos (by omega)]
        split
        · simp; omega
        · simp; omega
      · have := hp.1
        rw [tlF_o h0 h3, lF_o hp h0 h3, if_neg (by omega)]; simp
/-- a state of the builder is that row -/
def crw (D M : xM) (π : Int → Int) (w : Int) (col : Int → Int) (s : Int) (r : aR) : Prop := (0 ≤ s ∧ s < M 30 0) ∧ vS M 1 s = r.1 ∧ chL M (opn π col r.2.1 w.toNat 0) (vS M 2 s) ∧ ∃ l, chL M l (vS M 3 s) ∧ nmK π r.2.2 l ∧ pL D (opn π col r.2.1 w.toNat 0) + 2 * (l.length : Int) ≤ 243
theorem crw_gr {M M' : xM} {π col : Int → Int} {w s : Int} {r : aR} (hg : grL M M') (h : crw D M π w col s r) : crw D M' π w col s r := by
  obtain ⟨h1, h2, h3, l, h4, h5, h6⟩ := h
  refine ⟨⟨h1.1, by have := hg.2.2.1; omega⟩, ?_, ?_, l, ?_, h5, h6⟩
  · rw [hg.2.2.2 1 s (by omega) h1.1 h1.2]; exact h2
  · rw [hg.2.2.2 2 s (by omega) h1.1 h1.2]; exact chL_gr hg _ _ h3
  · rw [hg.2.2.2 3 s (by omega) h1.1 h1.2]; exact chL_gr hg _ _ h4
/-- places of a node in the class: apart, within a bound -/
def piO (π : Int → Int) (np b : Int) : Prop := (∀ q, 0 ≤ q → q < np → 0 ≤ π q ∧ π q < b) ∧ ∀ i j, 0 ≤ i → i < np → 0 ≤ j → j < np → π i = π j → i = j
theorem opn_len (hw : wfP D) {π col : Int → Int} {w : Int} {r : aR} {l : List (Int × Int)} (ho : okC D w r) (hw0 : 0 ≤ w) (h : pL D (opn π col r.2.1 w.toNat 0) + 2 * (l.length : Int) ≤ 243) : (opn π col r.2.1 w.toNat 0).length ≤ 81 := by
  have := pL_ge hw (opn π col r.2.1 w.toNat 0) (fun x hx => by
    obtain ⟨j, hj, hj2, rfl⟩ := opn_mem _ _ hx
    rcases ho j (by omega) (by omega) with z | z
    · omega
    · exact z)
  omega
end CRW
