/-! ===== the start: the small machine run outright, over lists in place of functions ===== -/
abbrev zW : Type := (Nat × Nat) ⊕ (Nat × Int × Int)
abbrev zT : Type := Nat × Nat × List (Nat × Nat × Nat) × List zW
def zdf : Nat → Int → Int
  | 0 => fun _ => 0
  | 1 => fun _ => -1
  | a + 2 => xfresh xft a
def zMm : List zW → xM → xM
  | [], M => M
  | .inl (k, f) :: w, M => xnew (zMm w M) k (zdf f)
  | .inr (k, i, v) :: w, M => xup (zMm w M) k i v
def zHh : List (Nat × Nat × Nat) → (Nat → Nat × Nat) → Nat → Nat × Nat
  | [], H => H
  | (k, q) :: w, H => xnew (zHh w H) k q
def zgm : List zW → Nat → Int → Option Int
  | [], _, _ => none
  | .inl (k', f) :: w, k, i => if k = k' then some (zdf f i) else zgm w k i
  | .inr (k', i', v) :: w, k, i => if k = k' ∧ i = i' then some v else zgm w k i
def zgh : List (Nat × Nat × Nat) → Nat → Option (Nat × Nat)
  | [], _ => none
  | (k', q) :: w, k => if k = k' then some q else zgh w k
theorem zgm_ok {M : xM} {v i : Int} {k : Nat} : ∀ {w : List zW}, zgm w k i = some v → zMm w M k i = v := by
  intro w
  induction w with
  | nil => intro h; simp [zgm] at h
  | cons x w ih =>
    rcases x with ⟨k', f⟩ | ⟨k', i', v'⟩
    · intro h
      simp only [zgm] at h
      show xnew (zMm w M) k' (zdf f) k i = v
      by_cases z : k = k'
      · rw [if_pos z] at h; rw [z, wnew_at]; exact Option.some.inj h
      · rw [if_neg z] at h; rw [wnew_ne z]; exact ih h
    · intro h
      simp only [zgm] at h
      show (if k = k' ∧ i = i' then v' else zMm w M k i) = v
      by_cases z : k = k' ∧ i = i'
      · rw [if_pos z] at h; rw [if_pos z]; exact Option.some.inj h
      · rw [if_neg z] at h; rw [if_neg z]; exact ih h
theorem zgh_ok {H : Nat → Nat × Nat} {q : Nat × Nat} {k : Nat} : ∀ {w : List (Nat × Nat × Nat)}, zgh w k = some q → zHh w H k = q := by
  intro w
  induction w with
  | nil => intro h; simp [zgh] at h
  | cons x w ih =>
    obtain ⟨k', q'⟩ := x
    intro h
    simp only [zgh] at h
    show xnew (zHh w H) k' q' k = q
    by_cases z : k = k'
    · rw [if_pos z] at h; rw [z, wnew_at]; exact Option.some.inj h
    · rw [if_neg z] at h; rw [wnew_ne z]; exact ih h
def zal (H : Nat → Nat × Nat) (M : xM) (c : zT) : xS := (c.1, c.2.1, zHh c.2.2.1 H, zMm c.2.2.2 M)
def zob (c : zT) (k a : Nat) : Bool := decide (0 < k) && decide (k < c.1) && (match zgh c.2.2.1 k with
  | some q => decide (q.1 = 10 + a)
  | none => false)
def zin (c : zT) (k : Nat) (i : Int) : Bool := decide (0 < k) && decide (k < c.1) && decide (0 ≤ i) && decide (i ≤ 2147483647) && (match zgh c.2.2.1 k with
  | some q => decide (q.1 = 1) && decide (i < (q.2 : Int))
  | none => false)
def zsl (b k : Nat) (w : List zW) : Bool := (List.range (xNf b)).all (fun j => (decide (¬ (xft b j).1 = 1) || decide (zgm w k (j : Int) = some ((k + (xft b j).2 : Nat) : Int))) && (decide (¬ (xft b j).1 = 2) || decide (zgm w k (j : Int) = some ((xft b j).2 : Int))))
def zgt (a j k : Nat) (w : List zW) : Option xV := match (xft a j).1 with
  | 0 => (zgm w k (j : Int)).map .inl
  | 4 => (zgm w k (j : Int)).map .inl
  | 1 => some (.inr (some (k + (xft a j).2)))
  | 2 => some (.inr (some (xft a j).2))
  | _ => (zgm w k (j : Int)).map (fun v => .inr (xref v))
def zpt (a j : Nat) (c : zT) (v : xV) : Option Int := match (xft a j).1, v with
  | 0, .inl x => some x
  | 4, .inl x => if x = 0 ∨ x = 1 then some x else none
  | 3, .inr none => some (-1)
  | 3, .inr (some t) => if t < c.1 then some (t : Int) else none
  | _, _ => none
def zsim (ins : Instr) (a b : Nat) (ls : xL) (st : List xV) (c : zT) : Option (xL × List xV × zT) := match ins with
  | .iconst n => some (ls, .inl n :: st, c)
  | .bipush n => some (ls, .inl n :: st, c)
  | .sipush n => some (ls, .inl n :: st, c)
  | .ldc _ => some (ls, .inl (a : Int) :: st, c)
  | .aconst_null => some (ls, .inr none :: st, c)
  | .iload_n k => match ls[(k : Nat)]? with
    | some (some (.inl x)) => some (ls, .inl x :: st, c)
    | _ => none
  | .aload_n k => match ls[(k : Nat)]? with
    | some (some (.inr x)) => some (ls, .inr x :: st, c)
    | _ => none
  | .istore_n k => match st with
    | .inl x :: st => some (ls.set (k : Nat) (some (.inl x)), st, c)
    | _ => none
  | .astore_n k => match st with
    | .inr x :: st => some (ls.set (k : Nat) (some (.inr x)), st, c)
    | _ => none
  | .iinc k n => match ls[k]? with
    | some (some (.inl x)) => some (ls.set k (some (.inl (x + n))), st, c)
    | _ => none
  | .dup => match st with
    | v :: st => some (ls, v :: v :: st, c)
    | _ => none
  | .getfield _ => match st with
    | .inr (some k) :: st => match zob c k a, zgt a b k c.2.2.2 with
      | true, some v => some (ls, v :: st, c)
      | _, _ => none
    | _ => none
  | .putfield _ => match st with
    | v :: .inr (some k) :: st => match zob c k a, zpt a b c v with
      | true, some x => some (ls, st, (c.1, c.2.1, c.2.2.1, .inr (k, (b : Int), x) :: c.2.2.2))
      | _, _ => none
    | _ => none
  | .iastore => match st with
    | .inl x :: .inl i :: .inr (some k) :: st => match zin c k i with
      | true => some (ls, st, (c.1, c.2.1, c.2.2.1, .inr (k, i, x) :: c.2.2.2))
      | _ => none
    | _ => none
  | .arraylength => match st with
    | .inr (some k) :: st => match decide (0 < k) && decide (k < c.1), zgh c.2.2.1 k with
      | true, some (1, n) => some (ls, .inl (n : Int) :: st, c)
      | _, _ => none
    | _ => none
  | .newarray _ => match st with
    | .inl n :: st => match decide (0 ≤ n ∧ n ≤ 50000000) with
      | true => some (ls, .inr (some c.1) :: st, (c.1 + 1, c.2.1 + n.toNat, (c.1, a, n.toNat) :: c.2.2.1, .inl (c.1, 0) :: c.2.2.2))
      | _ => none
    | _ => none
  | .anewarray _ => match st with
    | .inl n :: st => match decide (0 ≤ n ∧ n ≤ 50000000) with
      | true => some (ls, .inr (some c.1) :: st, (c.1 + 1, c.2.1 + n.toNat, (c.1, 4, n.toNat) :: c.2.2.1, .inl (c.1, 1) :: c.2.2.2))
      | _ => none
    | _ => none
  | .new _ => some (ls, .inr (some c.1) :: st, (c.1 + 1, c.2.1 + xNf a, (c.1, 10 + a, 0) :: c.2.2.1, .inl (c.1, a + 2) :: c.2.2.2))
  | .invokespecial _ => match a, st with
    | 1000, .inr (some _) :: st => match decide (st.length ≤ 8) with
      | true => some (ls, st, c)
      | _ => none
    | _, _ => none
  | .nop => match a, ls with
    | 2, some (.inr (some k)) :: _ => match zob c k (30 + b) && zsl b k c.2.2.2 with
      | true => some (ls, st, (c.1, c.2.1, (k, 10 + b, 0) :: c.2.2.1, c.2.2.2))
      | _ => none
    | _, _ => none
  | _ => none
section CON
variable {H : Nat → Nat × Nat} {M : xM} {c c' : zT}
theorem zob_ok {k a : Nat} (h : zob c k a = true) : 0 < k ∧ xob (zal H M c) k a := by
  unfold zob at h
  rw [Bool.and_eq_true, Bool.and_eq_true] at h
  obtain ⟨⟨h1, h2⟩, h3⟩ := h
  cases hz : zgh c.2.2.1 k with
  | none => rw [hz] at h3; cases h3
  | some q =>
    rw [hz] at h3
    refine ⟨of_decide_eq_true h1, of_decide_eq_true h2, ?_⟩
    show (zHh c.2.2.1 H k).1 = _
    rw [zgh_ok hz]; exact of_decide_eq_true h3
theorem zin_ok {k : Nat} {i : Int} (h : zin c k i = true) : 0 < k ∧ xin (zal H M c) k 1 i := by
  unfold zin at h
  rw [Bool.and_eq_true, Bool.and_eq_true, Bool.and_eq_true, Bool.and_eq_true] at h
  obtain ⟨⟨⟨⟨h1, h2⟩, h3⟩, h4⟩, h5⟩ := h
  cases hz : zgh c.2.2.1 k with
  | none => rw [hz] at h5; cases h5
  | some q =>
    rw [hz] at h5
    have h5 : (decide (q.1 = 1) && decide (i < (q.2 : Int))) = true := h5
    rw [Bool.and_eq_true] at h5
    have e1 : (zal H M c).2.2.1 k = q := zgh_ok hz
    refine ⟨of_decide_eq_true h1, of_decide_eq_true h2, ?_, of_decide_eq_true h3, ?_, of_decide_eq_true h4⟩
    · rw [e1]; exact of_decide_eq_true h5.1
    · rw [e1]; exact of_decide_eq_true h5.2
theorem zsl_ok {b k : Nat} {w : List zW} (h : zsl b k w = true) : xseal xft xNf b k (zMm w M) := by
  intro j hj
  have h1 := List.all_eq_true.mp h j (List.mem_range.mpr hj)
  rw [Bool.and_eq_true, Bool.or_eq_true, Bool.or_eq_true] at h1
  refine ⟨fun u => ?_, fun u => ?_⟩
  · rcases h1.1 with z | z
    · exact absurd u (of_decide_eq_true z)
    · exact zgm_ok (of_decide_eq_true z)
  · rcases h1.2 with z | z
    · exact absurd u (of_decide_eq_true z)
    · exact zgm_ok (of_decide_eq_true z)
theorem zgt_ok {a j k : Nat} {v : xV} {w : List zW} (h : zgt a j k w = some v) : xget xft a j k (zMm w M) = v := by
  unfold zgt at h
  unfold xget
  split at h
  · rename_i e; rw [e]
    obtain ⟨x, hx, hv⟩ := Option.map_eq_some_iff.mp h
    show Sum.inl (zMm w M k (j : Int)) = v
    rw [zgm_ok hx, hv]
  · rename_i e; rw [e]
    obtain ⟨x, hx, hv⟩ := Option.map_eq_some_iff.mp h
    show Sum.inl (zMm w M k (j : Int)) = v
    rw [zgm_ok hx, hv]
  · rename_i e; rw [e]
    exact Option.some.inj h
  · rename_i e; rw [e]
    exact Option.some.inj h
  · rename_i n0 n4 n1 n2
    obtain ⟨x, hx, hv⟩ := Option.map_eq_some_iff.mp h
    split
    · rename_i e; exact absurd e n0
    · rename_i e; exact absurd e n4
    · rename_i e; exact absurd e n1
    · rename_i e; exact absurd e n2
    · rw [zgm_ok hx, ← hv]
theorem zpt_ok {a j : Nat} {v : xV} {x : Int} (h : zpt a j c v = some x) : ∃ g, xput xft a j (zal H M c) v = some (g, x) ∧ ∀ p, g = some p → p := by
  unfold zpt at h
  unfold xput
  split at h
  · rename_i e; rw [e]; exact ⟨none, by rw [Option.some.inj h]; rfl, fun p z => by cases z⟩
  · rename_i y e; rw [e]
    by_cases z : y = 0 ∨ y = 1
    · rw [if_pos z] at h; exact ⟨some (y = 0 ∨ y = 1), by rw [← Option.some.inj h]; rfl, fun p u => by cases u; exact z⟩
    · rw [if_neg z] at h; cases h
  · rename_i e; rw [e]; exact ⟨none, by rw [← Option.some.inj h]; rfl, fun p z => by cases z⟩
  · rename_i t e; rw [e]
    by_cases z : t < c.1
    · rw [if_pos z] at h; exact ⟨some (t < (zal H M c).1), by rw [← Option.some.inj h]; rfl, fun p u => by cases u; exact z⟩
    · rw [if_neg z] at h; cases h
  · cases h
end CON
