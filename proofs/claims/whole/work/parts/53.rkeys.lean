/-! ===== the reference: the heads of a column, one after the other; the least other ===== -/
section RKEY
variable {e : yE} {d : Nat} {D M : xM} {s w cb lst at_ q ty x8 x9 x11 x12 : Int} {col : Int → Int} {rows : List aR}
def enc (x10 x13 : Int) (a : Option Int) : Prop := ((x10 = 0 ∧ a = none) ∨ (x10 = 1 ∧ a = some x13)) ∧ rg x13
theorem s_key {Q : xM → Prop} (hs : RSh e) (hb : okB D M s w cb col lst) (hn : ndR M s w cb rows) (hl : rows.length ≤ 24) (hat : 0 ≤ at_ ∧ at_ < w) (hok : ∀ r ∈ rows, okC D w r) (h9 : rg x9) (h11 : x11 = 0 ∨ x11 = 1) :
    ∀ (todo dn : List aR) (a : Option Int) (x10 x13 : Int), rows = dn ++ todo → enc x10 x13 a → (∀ x10' x13', enc x10' x13' (nk D at_ (fun h => ¬ x11 = 0 ∨ x9 < h) todo a) → R_test_61 e (d + 1) s at_ lst w q ty (s + rows.length) x8 x9 x10' x11 x12 x13' (s + rows.length) M Q) → R_test_61 e (d + 1) s at_ lst w q ty (s + rows.length) x8 x9 x10 x11 x12 x13 (s + dn.length) M Q := by
  intro todo
  induction todo with
  | nil =>
    intro dn a x10 x13 hr he h
    rw [List.append_nil] at hr
    have := h x10 x13 he
    rw [hr] at this ⊢
    exact this
  | cons r rs ih =>
    intro dn a x10 x13 hr he h
    have hgr : rows[dn.length]? = some r := by rw [hr, List.getElem?_append_right (Nat.le_refl _), Nat.sub_self]; rfl
    have hlr : dn.length < rows.length := by rw [hr, List.length_append, List.length_cons]; omega
    have hA := ndR_at hb hn hl hlr
    have hokr := hok r (List.mem_of_getElem? hgr)
    have hcell := (hn.2.2.2 _ r hgr).2.1 at_ hat.1 hat.2
    have hv := okC_rg hb.1 hokr hat.1 hat.2
    have hsb := hb.2.2.1
    have hr2 : rows = (dn ++ [r]) ++ rs := by rw [hr]; simp
    have hxx : s + ((dn ++ [r]).length : Int) = s + dn.length + 1 := by rw [List.length_append, List.length_singleton]; omega
    obtain ⟨he1, he2⟩ := he
    have hr10 : rg x10 := by rcases he1 with ⟨z, -⟩ | ⟨z, -⟩ <;> (rw [z]; exact ⟨by omega, by omega⟩)
    have hr11 : rg x11 := by rcases h11 with z | z <;> (rw [z]; exact ⟨by omega, by omega⟩)
    have h70 : M 70 = D 70 := hb.2.1.2.1
    unfold nk at h
    have skip : (if 0 ≤ r.2.1 at_ ∧ (¬ x11 = 0 ∨ x9 < D 70 (r.2.1 at_)) then nkS (D 70 (r.2.1 at_)) a else a) = a → R_test_61 e (d + 1) s at_ lst w q ty (s + rows.length) x8 x9 x10 x11 x12 x13 (s + dn.length + 1) M Q := by
      intro z
      rw [z] at h
      rw [← hxx]
      exact ih (dn ++ [r]) a x10 x13 hr2 ⟨he1, he2⟩ h
    have skip0 : ¬ (0 ≤ r.2.1 at_ ∧ (¬ x11 = 0 ∨ x9 < D 70 (r.2.1 at_))) → R_test_104 e (d + 1) s at_ lst w q ty (s + rows.length) x8 x9 x10 x11 x12 x13 (s + dn.length) (r.2.1 at_) 0 M Q := by
      intro z
      exact t_test_104 hs ⟨⟨by omega, by omega⟩, fun _ => skip (by rw [if_neg z]), fun y => absurd rfl y⟩
    have hrh : 0 ≤ r.2.1 at_ → rg (D 70 (r.2.1 at_)) := by
      intro z
      rcases hokr at_ hat.1 hat.2 with y | y
      · omega
      · exact (hb.1.2 _ y).2.2.1
    have take0 : (0 ≤ r.2.1 at_ ∧ (¬ x11 = 0 ∨ x9 < D 70 (r.2.1 at_))) → R_test_104 e (d + 1) s at_ lst w q ty (s + rows.length) x8 x9 x10 x11 x12 x13 (s + dn.length) (r.2.1 at_) 1 M Q := by
      intro z
      have put : nkS (D 70 (r.2.1 at_)) a = some (D 70 (r.2.1 at_)) → R_test_128 e (d + 1) s at_ lst w q ty (s + rows.length) x8 x9 x11 x12 (s + dn.length) (r.2.1 at_) M Q := by
        intro y
        rw [if_pos z, y] at h
        refine t_test_128 hs ⟨by omega, ?_⟩
        rw [← hxx, h70]
        exact ih (dn ++ [r]) _ 1 _ hr2 ⟨Or.inr ⟨rfl, rfl⟩, hrh z.1⟩ h
      refine t_test_104 hs ⟨⟨by omega, by omega⟩, fun y => absurd y (by omega), fun _ => ⟨hr10, fun y => ?_, fun y => ⟨by omega, ⟨by rw [h70]; exact hrh z.1, he2⟩, fun c => ?_, fun c => ?_⟩⟩⟩
      · rcases he1 with ⟨-, e1⟩ | ⟨e1, -⟩
        · exact put (by rw [e1]; rfl)
        · omega
      · rcases he1 with ⟨e1, -⟩ | ⟨-, e1⟩
        · omega
        · rw [h70] at c
          refine skip ?_
          rw [if_pos z, e1]
          show (if D 70 (r.2.1 at_) < x13 then _ else _) = _
          rw [if_neg (by omega)]
      · rcases he1 with ⟨e1, -⟩ | ⟨-, e1⟩
        · omega
        · rw [h70] at c
          refine put ?_
          rw [e1]
          show (if D 70 (r.2.1 at_) < x13 then _ else _) = _
          rw [if_pos (by omega)]
    refine t_test_61 hs ⟨⟨⟨by omega, by omega⟩, ⟨by omega, by omega⟩⟩, fun c => absurd c (by omega), fun _ => s_cell hs hA.1 (by omega) ?_⟩
    rw [hcell]
    refine ⟨⟨by omega, by omega⟩, fun c => skip0 (by omega), fun c => ⟨hr11, fun c2 => take0 ⟨by omega, Or.inl c2⟩, fun c2 => ⟨by omega, ⟨by rw [h70]; exact hrh (by omega), h9⟩, fun c3 => skip0 ?_, fun c3 => take0 ?_⟩⟩⟩
    · rw [h70] at c3
      rintro ⟨-, z | z⟩
      · exact c2 z
      · omega
    · rw [h70] at c3
      exact ⟨by omega, Or.inr (by omega)⟩
/-- the least from 0 on that stands in no row -/
theorem s_leastOther {Q : Int → xM → Prop} (hs : RSh e) (hb : okB D M s w cb col lst) (hn : ndR M s w cb rows) (hl : rows.length ≤ 24) (hat : 0 ≤ at_ ∧ at_ < w) (hok : ∀ r ∈ rows, okC D w r) (h : Q (lA (kys D at_ rows []) 0) M) : R_leastOther e (d + 2) s (s + rows.length) at_ M Q := by
  have hord : (kys D at_ rows []).Pairwise (· < ·) := kys_ord rows [] List.Pairwise.nil
  have hmem : ∀ y, y ∈ kys D at_ rows [] ↔ ∃ r ∈ rows, 0 ≤ r.2.1 at_ ∧ D 70 (r.2.1 at_) = y := by
    intro y; rw [kys_mem]; simp
  obtain ⟨l1, l2⟩ := lA_is (kys D at_ rows []) 0 hord
  have l3 := lA_ge (kys D at_ rows []) 0
  have l4 := lA_le (kys D at_ rows []) 0
  have l5 := kys_len (D := D) (at_ := at_) rows []
  rw [List.length_nil] at l5
  have hsb := hb.2.2.1
  have h70 : M 70 = D 70 := hb.2.1.2.1
  -- one look through the rows
  have scan : ∀ (x4 : Int), 0 ≤ x4 → x4 ≤ 100 → ∀ (todo dn : List aR) (x5 : Int), rows = dn ++ todo → (x5 = 0 ∨ x5 = 1) → ((x5 = 1 ∨ ∃ r ∈ todo, 0 ≤ r.2.1 at_ ∧ D 70 (r.2.1 at_) = x4) → R_leastOther_6 e (d + 1) s (s + rows.length) at_ (x4 + 1) 1 M Q) → ((x5 = 0 ∧ ¬ ∃ r ∈ todo, 0 ≤ r.2.1 at_ ∧ D 70 (r.2.1 at_) = x4) → R_leastOther_6 e (d + 1) s (s + rows.length) at_ x4 0 M Q) → R_leastOther_17 e (d + 1) s (s + rows.length) at_ x4 x5 (s + dn.length) M Q := by
    intro x4 h40 h41 todo
    induction todo with
    | nil =>
      intro dn x5 hr h5 ha hb2
      rw [List.append_nil] at hr
      have hxe : s + (rows.length : Int) = s + dn.length := by rw [hr]
      refine t_leastOther_17 hs ⟨⟨⟨by omega, by omega⟩, ⟨by omega, by omega⟩⟩, fun _ => ⟨by rcases h5 with z | z <;> (rw [z]; exact ⟨by omega, by omega⟩), fun c => ?_, fun c => ?_⟩, fun c => absurd (by omega) c⟩
      · rw [c]; exact hb2 ⟨c, by simp⟩
      · have : x5 = 1 := h5.resolve_left c
        rw [this]; exact ha (Or.inl this)
    | cons r rs ih =>
      intro dn x5 hr h5 ha hb2
      have hgr : rows[dn.length]? = some r := by rw [hr, List.getElem?_append_right (Nat.le_refl _), Nat.sub_self]; rfl
      have hlr : dn.length < rows.length := by rw [hr, List.length_append, List.length_cons]; omega
      have hA := ndR_at hb hn hl hlr
      have hokr := hok r (List.mem_of_getElem? hgr)
      have hcell := (hn.2.2.2 _ r hgr).2.1 at_ hat.1 hat.2
      have hv := okC_rg hb.1 hokr hat.1 hat.2
      have hr2 : rows = (dn ++ [r]) ++ rs := by rw [hr]; simp
      have hxx : s + ((dn ++ [r]).length : Int) = s + dn.length + 1 := by rw [List.length_append, List.length_singleton]; omega
      have go0 : ¬ (0 ≤ r.2.1 at_ ∧ D 70 (r.2.1 at_) = x4) → x5 = 0 → R_leastOther_17 e (d + 1) s (s + rows.length) at_ x4 0 (s + dn.length + 1) M Q := by
        intro z z5
        rw [← hxx]
        refine ih (dn ++ [r]) 0 hr2 (Or.inl rfl) (fun y => ha ?_) (fun y => hb2 ⟨z5, ?_⟩)
        · rcases y with y | ⟨r', y1, y2⟩
          · omega
          · exact Or.inr ⟨r', by simp [y1], y2⟩
        · rintro ⟨r', y1, y2⟩
          rcases List.mem_cons.mp y1 with y3 | y3
          · subst y3; exact z y2
          · exact y.2 ⟨r', y3, y2⟩
      have go1 : (x5 = 1 ∨ (0 ≤ r.2.1 at_ ∧ D 70 (r.2.1 at_) = x4)) → R_leastOther_17 e (d + 1) s (s + rows.length) at_ x4 1 (s + dn.length + 1) M Q := by
        intro z
        rw [← hxx]
        refine ih (dn ++ [r]) 1 hr2 (Or.inr rfl) (fun _ => ha ?_) (fun y => by omega)
        rcases z with z | z
        · exact Or.inl z
        · exact Or.inr ⟨r, by simp, z⟩
      refine t_leastOther_17 hs ⟨⟨⟨by omega, by omega⟩, ⟨by omega, by omega⟩⟩, fun c => absurd c (by omega), fun _ => ⟨by rcases h5 with z | z <;> (rw [z]; exact ⟨by omega, by omega⟩), fun c => go1 (Or.inl (h5.resolve_left c)), fun c => s_cell hs hA.1 (by omega) ?_⟩⟩
      rw [hcell]
      refine ⟨⟨by omega, by omega⟩, fun c2 => go0 (by omega) (by omega), fun c2 => s_cell hs hA.1 (by omega) ?_⟩
      rw [hcell, h70]
      have hrh : rg (D 70 (r.2.1 at_)) := by
        rcases hokr at_ hat.1 hat.2 with y | y
        · omega
        · exact (hb.1.2 _ y).2.2.1
      exact ⟨by omega, ⟨hrh, ⟨by omega, by omega⟩⟩, fun c3 => go0 (fun z => c3 z.2) (by omega), fun c3 => go1 (Or.inr ⟨by omega, Classical.not_not.mp c3⟩)⟩
  have key : ∀ (j : Nat) (x4 : Int), 0 ≤ x4 → x4 + (j : Int) = lA (kys D at_ rows []) 0 → R_leastOther_6 e (d + 1) s (s + rows.length) at_ x4 1 M Q := by
    intro j
    induction j with
    | zero =>
      intro x4 h40 h41
      have hx : x4 = lA (kys D at_ rows []) 0 := by omega
      refine t_leastOther_6 hs ⟨⟨by omega, by omega⟩, fun c => absurd c (by omega), fun _ => ?_⟩
      have := scan x4 h40 (by omega) rows [] 0 rfl (Or.inl rfl) (fun z => ?_) (fun _ => t_leastOther_6 hs ⟨⟨by omega, by omega⟩, fun _ => by rw [hx]; exact h, fun c => absurd rfl c⟩)
      · rw [show s + (([] : List aR).length : Int) = s by simp] at this; exact this
      · rcases z with z | z
        · omega
        · exact absurd ((hmem x4).mpr z) (by rw [hx]; exact l1)
    | succ j ih =>
      intro x4 h40 h41
      refine t_leastOther_6 hs ⟨⟨by omega, by omega⟩, fun c => absurd c (by omega), fun _ => ?_⟩
      have := scan x4 h40 (by omega) rows [] 0 rfl (Or.inl rfl) (fun _ => ih (x4 + 1) (by omega) (by omega)) (fun z => ?_)
      · rw [show s + (([] : List aR).length : Int) = s by simp] at this; exact this
      · exact absurd ((hmem x4).mp (l2 x4 h40 (by omega))) z.2
  exact t_leastOther (t_leastOther_0 hs (key (lA (kys D at_ rows []) 0).toNat 0 (by omega) (by omega)))
end RKEY
