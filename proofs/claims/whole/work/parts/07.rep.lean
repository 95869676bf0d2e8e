/-! ===== the machine's heap by the small machine's memory ===== -/
def xad (b B k : Nat) : Nat := if k = 0 then b else B + (k - 1)
def xcv (ad : Nat → Nat) : xV → Value
  | .inl x => .int (Int32.ofInt x)
  | .inr r => va_rf (r.map ad)
/-- what a cell is, by its shape and its numbers -/
def xat (ad : Nat → Nat) (dC : Nat → ClassId) (dI : Nat → Nat → Nat) (aC : Nat → ClassId) (k : Nat) (q : Nat × Nat) (M : xM) (H : Heap) : Prop :=
  (1 ≤ q.1 ∧ q.1 ≤ 3 → H[ad k]? = some (arrV (aC q.1) q.2 (fun i => .int (Int32.ofInt (M k (i : Int)))))) ∧
  (q.1 = 4 → H[ad k]? = some (arrV (aC 4) q.2 (fun i => va_rf ((xref (M k (i : Int))).map ad)))) ∧
  (10 ≤ q.1 → (q.1 - 10) % 30 < 11 ∧ t_OB (ad k) (dC ((q.1 - 10) % 30)) (xNf (q.1 - 10)) (dI ((q.1 - 10) % 30)) H (fun j => xcv ad (xget xft (q.1 - 10) j k M)))
def xRep (b B : Nat) (dC : Nat → ClassId) (dI : Nat → Nat → Nat) (aC : Nat → ClassId) (U : State) (S : xS) (H : Heap) : Prop :=
  (H.size = B + (S.1 - 1) ∧ 0 < S.1 ∧ b < B) ∧ ((S.2.2.1 0).1 = 5 ∧ va_X b (S.2.2.1 0).2 (fun j => Int32.ofInt (S.2.2.2 0 (j : Int))) U H) ∧ ∀ k, 0 < k → k < S.1 → xat (xad b B) dC dI aC k (S.2.2.1 k) S.2.2.2 H
theorem xad_pos {b B k : Nat} (h : 0 < k) : xad b B k = B + (k - 1) := by unfold xad; rw [if_neg (by omega)]
theorem xad_0 {b B : Nat} : xad b B 0 = b := by unfold xad; rw [if_pos rfl]
theorem xad_ne {b B k j : Nat} (hb : b < B) (h : k ≠ j) : xad b B k ≠ xad b B j := by
  unfold xad
  split <;> split <;> omega
theorem xget_congr {a j k : Nat} {M M' : xM} (h : M' k = M k) : xget xft a j k M' = xget xft a j k M := by
  unfold xget
  rw [h]
theorem xat_kept {ad : Nat → Nat} {dC : Nat → ClassId} {dI : Nat → Nat → Nat} {aC : Nat → ClassId} {k : Nat} {q : Nat × Nat} {M M' : xM} {H H' : Heap} (h : xat ad dC dI aC k q M H) (hM : M' k = M k) (hH : H'[ad k]? = H[ad k]?) : xat ad dC dI aC k q M' H' := by
  obtain ⟨h1, h2, h3⟩ := h
  refine ⟨fun g => ?_, fun g => ?_, fun g => ?_⟩
  · rw [hH, hM]; exact h1 g
  · rw [hH, hM]; exact h2 g
  · obtain ⟨g1, g2⟩ := h3 g
    exact ⟨g1, (g2.kept hH).to (fun j _ => by rw [xget_congr hM])⟩
section REP
variable {b B : Nat} {dC : Nat → ClassId} {dI : Nat → Nat → Nat} {aC : Nat → ClassId} {U u : State} {S S' : xS} {H H' : Heap}
theorem xRep.moved (hvm : u.vm.Alike U.vm) (h : xRep b B dC dI aC u S H) : xRep b B dC dI aC U S H := ⟨h.1, ⟨h.2.1.1, h.2.1.2.moved hvm⟩, h.2.2⟩
theorem xRep.set (h : xRep b B dC dI aC U S H) {k : Nat} (hk0 : 0 < k) (hS1 : S'.1 = S.1) (hsh : ∀ j, j ≠ k → S'.2.2.1 j = S.2.2.1 j) (hM : ∀ j, j ≠ k → S'.2.2.2 j = S.2.2.2 j) (hz : H'.size = H.size) (ho : ∀ q : Nat, q ≠ xad b B k → H'[q]? = H[q]?)
    (hat : k < S.1 → xat (xad b B) dC dI aC k (S'.2.2.1 k) S'.2.2.2 H') : xRep b B dC dI aC U S' H' := by
  obtain ⟨⟨h1, h2, hb⟩, ⟨h3, h4⟩, h5⟩ := h
  refine ⟨⟨by rw [hz, hS1]; exact h1, by rw [hS1]; exact h2, hb⟩, ⟨?_, ?_⟩, fun j hj0 hj => ?_⟩
  · rw [hsh 0 (by omega)]; exact h3
  · rw [hsh 0 (by omega)]
    have e : (fun j : Nat => Int32.ofInt (S'.2.2.2 0 (j : Int))) = fun j : Nat => Int32.ofInt (S.2.2.2 0 (j : Int)) := by rw [hM 0 (by omega)]
    rw [e]
    exact h4.kept (ho b (by have := xad_ne hb (show 0 ≠ k by omega); rw [xad_0] at this; exact this))
  · rw [hS1] at hj
    by_cases hjk : j = k
    · subst hjk; exact hat hj
    · rw [hsh j hjk]
      exact xat_kept (h5 j hj0 hj) (hM j hjk) (ho _ (xad_ne hb hjk))
theorem xRep.push (h : xRep b B dC dI aC U S H) (hS1 : S'.1 = S.1 + 1) (hsh : ∀ j, j ≠ S.1 → S'.2.2.1 j = S.2.2.1 j) (hM : ∀ j, j ≠ S.1 → S'.2.2.2 j = S.2.2.2 j) (hz : H'.size = H.size + 1) (ho : ∀ q : Nat, q < H.size → H'[q]? = H[q]?)
    (hat : xat (xad b B) dC dI aC S.1 (S'.2.2.1 S.1) S'.2.2.2 H') : xRep b B dC dI aC U S' H' := by
  obtain ⟨⟨h1, h2, hb⟩, ⟨h3, h4⟩, h5⟩ := h
  refine ⟨⟨by rw [hz, hS1, h1]; omega, by omega, hb⟩, ⟨?_, ?_⟩, fun j hj0 hj => ?_⟩
  · rw [hsh 0 (by omega)]; exact h3
  · rw [hsh 0 (by omega)]
    have e : (fun j : Nat => Int32.ofInt (S'.2.2.2 0 (j : Int))) = fun j : Nat => Int32.ofInt (S.2.2.2 0 (j : Int)) := by rw [hM 0 (by omega)]
    rw [e]
    exact h4.kept (ho b (by omega))
  · rw [hS1] at hj
    by_cases hjk : j = S.1
    · subst hjk; exact hat
    · rw [hsh j hjk]
      refine xat_kept (h5 j hj0 (by omega)) (hM j hjk) (ho _ ?_)
      rw [xad_pos hj0]; omega
end REP
/-- the locals -/
def xloc (ad : Nat → Nat) (lsA : Array Slot) (nL : Nat) (ls : xL) : Prop := lsA.size = nL ∧ lv_wf lsA ∧ ls.length = nL ∧ ∀ (i : Nat) (v : xV), ls[i]? = some (some v) → lsA[i]? = some (Slot.val (xcv ad v))
def xlv (ad : Nat → Nat) (nL : Nat) (ls : xL) : List (Nat × Value) := (List.range nL).filterMap (fun i => match ls[i]? with
  | some (some v) => some (i, xcv ad v)
  | _ => none)
theorem xlv_mem {ad : Nat → Nat} {nL : Nat} {ls : xL} {q : Nat × Value} : q ∈ xlv ad nL ls ↔ q.1 < nL ∧ ∃ v, ls[q.1]? = some (some v) ∧ q.2 = xcv ad v := by
  unfold xlv
  rw [List.mem_filterMap]
  constructor
  · rintro ⟨i, hi, h⟩
    split at h
    · rename_i v hv
      cases h
      exact ⟨List.mem_range.mp hi, v, hv, rfl⟩
    · cases h
  · rintro ⟨h1, v, h2, h3⟩
    exact ⟨q.1, List.mem_range.mpr h1, by rw [h2]; simp [← h3]⟩
theorem xcv_cat (ad : Nat → Nat) (v : xV) : (xcv ad v).category = 1 := by
  rcases v with x | r
  · rfl
  · cases r <;> rfl
theorem xloc.has {ad : Nat → Nat} {lsA : Array Slot} {nL : Nat} {ls : xL} (h : xloc ad lsA nL ls) : lv_has lsA nL (xlv ad nL ls) := by
  refine ⟨h.1, h.2.1, fun q hq => ?_⟩
  obtain ⟨-, v, h1, h2⟩ := xlv_mem.mp hq
  rw [h2]
  exact h.2.2.2 _ _ h1
theorem xloc.at {ad : Nat → Nat} {lsA : Array Slot} {nL : Nat} {ls : xL} (h : xloc ad lsA nL ls) {i : Nat} {v : xV} (hi : ls[i]? = some (some v)) : lsA[i]? = some (.val (xcv ad v)) := h.2.2.2 i v hi
theorem xloc.put {ad : Nat → Nat} {lsA lsB : Array Slot} {nL : Nat} {ls : xL} (h : xloc ad lsA nL ls) {i : Nat} {v : xV} (h2 : lv_has lsB nL ((i, xcv ad v) :: (xlv ad nL ls).filter (fun q => !(q.1 == i) && !(q.1 + 1 == i && q.2.category == 2)))) : xloc ad lsB nL (ls.set i (some v)) := by
  refine ⟨h2.1, h2.2.1, by rw [List.length_set]; exact h.2.2.1, fun j w hj => ?_⟩
  by_cases hij : i = j
  · subst hij
    have hlt : i < ls.length := by
      have := (List.getElem?_eq_some_iff.mp hj).1
      simpa using this
    rw [List.getElem?_set_self hlt] at hj
    cases hj
    exact h2.2.2 (i, xcv ad v) List.mem_cons_self
  · rw [List.getElem?_set_ne hij] at hj
    refine h2.2.2 (j, xcv ad w) (List.mem_cons_of_mem _ (List.mem_filter.mpr ⟨xlv_mem.mpr ⟨?_, w, hj, rfl⟩, ?_⟩))
    · have := (List.getElem?_eq_some_iff.mp hj).1
      rw [h.2.2.1] at this
      exact this
    · have hne : ¬ j = i := fun e => hij e.symm
      simp [hne, xcv_cat]
theorem wr_ofInt (x : Int) : (Int32.ofInt x).toInt = wr x := rfl
theorem wr_eq {x y : Int} : Int32.ofInt x = Int32.ofInt y ↔ wr x = wr y := Int32.toInt_inj.symm
theorem wr_lt {x y : Int} : Int32.ofInt x < Int32.ofInt y ↔ wr x < wr y := Int32.lt_iff_toInt_lt
theorem wr_le {x y : Int} : Int32.ofInt x ≤ Int32.ofInt y ↔ wr x ≤ wr y := Int32.le_iff_toInt_le
theorem wr_0 : wr 0 = 0 := by decide
theorem wr_id {x : Int} (h : rg x) : wr x = x := Int32.toInt_ofInt_of_le (by have := h.1; omega) (by have := h.2; omega)
theorem xin_wr {S : xS} {k t : Nat} {i : Int} (h : xin S k t i) : wr i = i := wr_id ⟨by have := h.2.2.1; omega, h.2.2.2.2⟩
theorem xin_of {S : xS} {k t : Nat} {i : Int} (h : xin S k t i) : vp_in (Int32.ofInt i) (S.2.2.1 k).2 := vp_in_iff.mpr (by rw [wr_ofInt, xin_wr h]; exact ⟨h.2.2.1, h.2.2.2.1⟩)
theorem wr_clamp (i : Int) : (Int32.ofInt i).toNatClampNeg = (wr i).toNat := rfl
