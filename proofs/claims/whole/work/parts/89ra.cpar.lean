/-! ===== the class: parents, and how far places go ===== -/
/-- x comes from i -/
def frI (D : xM) (t : Nat) (m : Int) (M : xM) (nd : Int → aN) (hw : Int → Int) (i x : Int) : Prop := M (t + 6) x = i ∧ ∃ rows at_, shp D (nd i).1 (nd i).2.1 (nd i).2.2.2.2 = some (rows, at_) ∧ ((0 ≤ at_ ∧ ∃ (j : Nat) (k : Int) (o : Bool), (brs D ((nd i).2.2.2.1 88 ((nd i).2.1 at_)) at_ rows)[j]? = some (k, o) ∧ x = M (t + 7) i + j ∧ hw i ≤ M (t + 11) x ∧ M (t + 11) x + nPs D ((nd i).2.2.2.1 88 ((nd i).2.1 at_)) k ≤ hw x) ∨ (at_ < 0 ∧ (∃ r rs, rows = r :: rs ∧ ¬ D 79 (12 * m + r.1) < 0) ∧ x = M (t + 7) i ∧ hw i ≤ hw x))
def paI (D : xM) (t : Nat) (m : Int) (M : xM) (nd : Int → aN) (pi : Int → Int → Int) (hw : Int → Int) (ws : List Int) : Prop := M (t + 6) 0 = -1 ∧ (∀ i, 0 ≤ i → i < M t 1 → hw i ≤ M t 4 ∧ ∀ q, 0 ≤ q → q < (nd i).2.2.1 → pi i q < hw i) ∧ ∀ x, 0 < x → x < M t 1 → ∃ i, (0 ≤ i ∧ i < x ∧ i ∉ ws) ∧ frI D t m M nd hw i x
section CPA
variable {D : xM} {t : Nat} {m cur : Int} {M M' : xM} {nd nd' : Int → aN} {pi pi' : Int → Int → Int} {hw hw' : Int → Int}
/-- one step, any kind -/
theorem pa_step {ws ws' : List Int} (h : paI D t m M nd pi hw (cur :: ws)) (h1 : 1 ≤ M t 1) (hn : ∀ x, x < M t 1 → nd' x = nd x ∧ pi' x = pi x) (hh : ∀ x, x < M t 1 → hw' x = hw x) (hk : kpO t M M' (fun x => x ≠ cur)) (hws : ∀ i, 0 ≤ i → i < M t 1 → i ∉ cur :: ws → i ∉ ws') (hnew : ∀ x, M t 1 ≤ x → x < M' t 1 → (hw' x ≤ M' t 4 ∧ ∀ q, 0 ≤ q → q < (nd' x).2.2.1 → pi' x q < hw' x) ∧ ∃ i, (0 ≤ i ∧ i < x ∧ i ∉ ws') ∧ frI D t m M' nd' hw' i x) : paI D t m M' nd' pi' hw' ws' := by
  obtain ⟨a1, a2, a3⟩ := h
  obtain ⟨k1, k2, k3, k4, k5⟩ := hk
  refine ⟨by rw [(k2 0 (by omega)).1]; exact a1, fun i i0 i1 => ?_, fun x x0 x1 => ?_⟩
  · by_cases z : i < M t 1
    · rw [(hn i z).1, (hn i z).2, hh i z]
      exact ⟨Int.le_trans (a2 i i0 z).1 k5, (a2 i i0 z).2⟩
    · exact (hnew i (by omega) i1).1
  · by_cases z : x < M t 1
    · obtain ⟨i, ⟨i0, i1, i2⟩, f1, rows, at_, f2, f3⟩ := a3 x x0 z
      have iz : i < M t 1 := by omega
      have ic : i ≠ cur := fun y => i2 (by rw [y]; exact List.mem_cons_self ..)
      obtain ⟨b6, b9, b10, b11⟩ := k2 x z
      refine ⟨i, ⟨i0, i1, hws i i0 iz i2⟩, by rw [b6]; exact f1, rows, at_, by rw [(hn i iz).1]; exact f2, ?_⟩
      rw [(hn i iz).1, (k1 i ic).2.2.2.1, b11, hh i iz, hh x z]
      exact f3
    · exact (hnew x (by omega) x1).2
/-- a leaf -/
theorem pa_leaf {evs : List aV} {ws : List Int} (hv : ivT D t m M nd pi evs (cur :: ws)) (h : paI D t m M nd pi hw (cur :: ws)) (hk : kpO t M M' (fun x => x ≠ cur)) (h1 : M' t 1 = M t 1) : paI D t m M' nd pi hw ws := by
  have b2 := hv.2.1.2.1
  rw [List.length_cons] at b2
  exact pa_step h (by omega) (fun _ _ => ⟨rfl, rfl⟩) (fun _ _ => rfl) hk (fun i _ _ hi hw => hi (List.mem_cons_of_mem _ hw)) (fun x x0 x1 => by omega)
/-- a question -/
theorem pa_ask {evs evs' : List aV} {ws : List Int} {r : aR} {rs : List aR} {at_ : Int} (hv : ivT D t m M nd pi evs (cur :: ws)) (h : paI D t m M nd pi hw (cur :: ws)) (hk : kpO t M M' (fun x => x ≠ cur)) (h1 : M' t 1 = M t 1 + 1) (hn : ∀ x, x < M t 1 → nd' x = nd x ∧ pi' x = pi x) (hv' : ivT D t m M' nd' pi' evs' (M t 1 :: ws)) (hq : shp D (nd cur).1 (nd cur).2.1 (nd cur).2.2.2.2 = some (r :: rs, at_)) (hat : at_ < 0) (hg : ¬ D 79 (12 * m + r.1) < 0) (h7 : M' (t + 7) cur = M t 1) : ∃ hw', paI D t m M' nd' pi' hw' (M t 1 :: ws) := by
  obtain ⟨b1, b2, b3, b4, b5⟩ := hv.2.1
  rw [List.length_cons] at b2
  have hc := hv.2.2.1.2 cur (List.mem_cons_self ..)
  have hcn : cur ∉ M t 1 :: ws := by
    intro z
    rcases List.mem_cons.mp z with y | y
    · omega
    · have := hv.2.2.1.1; rw [List.nodup_cons] at this; exact this.1 y
  have hpr := (hv'.2.2.2.1 cur hc.1 (by omega)).2.2 hcn
  obtain ⟨rows2, at2, hsh2, p0, p1⟩ := hpr
  rw [(hn cur hc.2).1] at hsh2
  obtain ⟨e1, e2⟩ := Prod.mk.inj (Option.some.inj (hsh2.symm.trans hq))
  subst e1; subst e2
  obtain ⟨-, -, -, f6⟩ := (p1 hat).2 r rs rfl
  obtain ⟨g1, g2, g3, g4, g5, g6⟩ := f6 hg
  rw [h7] at g3 g4 g5 g6
  rw [(hn cur hc.2).1] at g5
  rw [(hn cur hc.2).2] at g6
  obtain ⟨a2a, a2b⟩ := h.2.1 cur hc.1 hc.2
  obtain ⟨hw', ehw⟩ : ∃ hw' : Int → Int, hw' = fun x => if x < M t 1 then hw x else hw cur := ⟨_, rfl⟩
  refine ⟨hw', pa_step h (by omega) hn (fun x hx => by rw [ehw]; exact if_pos hx) hk (fun i i0 i1 hi z => ?_) (fun x x0 x1 => ?_)⟩
  · rcases List.mem_cons.mp z with y | y
    · omega
    · exact hi (List.mem_cons_of_mem _ y)
  · have hx : x = M t 1 := by omega
    subst hx
    have e1 : hw' (M t 1) = hw cur := by rw [ehw]; exact if_neg (by omega)
    have e2 : hw' cur = hw cur := by rw [ehw]; exact if_pos hc.2
    refine ⟨⟨by rw [e1]; exact Int.le_trans a2a hk.2.2.2.2, fun q q0 q1 => by rw [e1, g6]; rw [g5] at q1; exact a2b q q0 q1⟩, cur, ⟨hc.1, by omega, hcn⟩, g4, r :: rs, at2, by rw [(hn cur hc.2).1]; exact hq, Or.inr ⟨hat, ⟨r, rs, rfl, hg⟩, h7.symm, by rw [e1, e2]; exact Int.le_refl _⟩⟩
/-- a test -/
theorem pa_test {evs evs' : List aV} {ws : List Int} {rows : List aR} {at_ : Int} {n : Nat} (hwp : wfP D) (hv : ivT D t m M nd pi evs (cur :: ws)) (h : paI D t m M nd pi hw (cur :: ws)) (hk : kpO t M M' (fun x => x ≠ cur)) (h1 : M' t 1 = M t 1 + n) (hn : ∀ x, x < M t 1 → nd' x = nd x ∧ pi' x = pi x) (hv' : ivT D t m M' nd' pi' evs' (rng (M t 1) n ++ ws)) (hq : shp D (nd cur).1 (nd cur).2.1 (nd cur).2.2.2.2 = some (rows, at_)) (hat : 0 ≤ at_) (hnl : n = (brs D ((nd cur).2.2.2.1 88 ((nd cur).2.1 at_)) at_ rows).length) (h7 : M' (t + 7) cur = M t 1) (h11 : ∀ x, M t 1 ≤ x → x < M t 1 + n → M t 4 ≤ M' (t + 11) x) (hnp : ∀ k o, (k, o) ∈ brs D ((nd cur).2.2.2.1 88 ((nd cur).2.1 at_)) at_ rows → bMn D ((nd cur).2.2.2.1 88 ((nd cur).2.1 at_)) k o ≤ nPs D ((nd cur).2.2.2.1 88 ((nd cur).2.1 at_)) k ∧ 0 ≤ nPs D ((nd cur).2.2.2.1 88 ((nd cur).2.1 at_)) k) : ∃ hw', paI D t m M' nd' pi' hw' (rng (M t 1) n ++ ws) := by
  obtain ⟨b1, b2, b3, b4, b5⟩ := hv.2.1
  rw [List.length_cons] at b2
  have hc := hv.2.2.1.2 cur (List.mem_cons_self ..)
  have hcn : cur ∉ rng (M t 1) n ++ ws := by
    intro z
    rcases List.mem_append.mp z with y | y
    · have := (rng_mem n).mp y; omega
    · have := hv.2.2.1.1; rw [List.nodup_cons] at this; exact this.1 y
  have hpr := (hv'.2.2.2.1 cur hc.1 (by omega)).2.2 hcn
  obtain ⟨rows2, at2, hsh2, p0, p1⟩ := hpr
  rw [(hn cur hc.2).1] at hsh2
  obtain ⟨e1, e2⟩ := Prod.mk.inj (Option.some.inj (hsh2.symm.trans hq))
  subst e1; subst e2
  obtain ⟨-, -, -, kbr⟩ := p0 hat
  rw [h7, (hn cur hc.2).1] at kbr
  obtain ⟨a2a, a2b⟩ := h.2.1 cur hc.1 hc.2
  obtain ⟨L, eL⟩ : ∃ L, L = brs D ((nd cur).2.2.2.1 88 ((nd cur).2.1 at2)) at2 rows2 := ⟨_, rfl⟩
  obtain ⟨hw', ehw⟩ : ∃ hw' : Int → Int, hw' = fun x => if x < M t 1 then hw x else M' (t + 11) x + ((L[(x - M t 1).toNat]?).map (fun y => nPs D ((nd cur).2.2.2.1 88 ((nd cur).2.1 at2)) y.1)).getD 0 := ⟨_, rfl⟩
  refine ⟨hw', pa_step h (by omega) hn (fun x hx => by rw [ehw]; exact if_pos hx) hk (fun i i0 i1 hi z => ?_) (fun x x0 x1 => ?_)⟩
  · rcases List.mem_append.mp z with y | y
    · have := (rng_mem n).mp y; omega
    · exact hi (List.mem_cons_of_mem _ y)
  · obtain ⟨j, hj⟩ : ∃ j : Nat, x = M t 1 + j := ⟨(x - M t 1).toNat, by omega⟩
    have hjl : j < L.length := by rw [eL]; omega
    have hjg := List.getElem?_eq_getElem hjl
    obtain ⟨⟨k, o⟩, ey⟩ : ∃ y, y = L[j] := ⟨_, rfl⟩
    rw [← ey] at hjg
    rw [eL] at hjg
    obtain ⟨g1, g2, g3, g4, g5, g6, g7, g8⟩ := kbr j k o hjg
    rw [(hn cur hc.2).1] at g3 g6 g7
    rw [(hn cur hc.2).2] at g6
    rw [← hj] at g1 g2 g3 g4 g5 g6 g7 g8
    obtain ⟨np1, np2⟩ := hnp k o (List.mem_of_getElem? hjg)
    have hf := h11 x x0 (by omega)
    have hwx : hw' x = M' (t + 11) x + nPs D ((nd cur).2.2.2.1 88 ((nd cur).2.1 at2)) k := by
      rw [ehw]
      show (if x < M t 1 then _ else _) = _
      rw [if_neg (by omega), show (x - M t 1).toNat = j by omega, eL, hjg]; rfl
    have hwc : hw' cur = hw cur := by rw [ehw]; exact if_pos hc.2
    refine ⟨⟨by rw [hwx]; exact g7.2, fun q q0 q1 => ?_⟩, cur, ⟨hc.1, by omega, hcn⟩, g2, rows2, at2, by rw [(hn cur hc.2).1]; exact hq, Or.inl ⟨hat, j, k, o, by rw [(hn cur hc.2).1]; exact hjg, by rw [h7]; exact hj, by rw [hwc]; exact Int.le_trans a2a hf, by rw [(hn cur hc.2).1, hwx]; exact Int.le_refl _⟩⟩
    rw [g3] at q1
    have q1 : q < (nd cur).2.2.1 + bMn D ((nd cur).2.2.2.1 88 ((nd cur).2.1 at2)) k o := q1
    rw [g6, hwx]
    unfold piN
    by_cases z : q < (nd cur).2.2.1
    · rw [if_pos z]; have := a2b q q0 z; omega
    · rw [if_neg z]; omega
theorem kpO_bcm {M1 : xM} {k : Int} (s1 : ∀ j, t ≤ j → j ≤ t + 12 → M1 j = M j) : kpO t M (bcm M1 t cur k) (fun x => x ≠ cur) := by
  obtain ⟨r1, r2, r3, r4, r5⟩ := bcm_fr (M := M1) (t := t) (i := cur) (k := k)
  have q1 : ∀ j, t ≤ j → j ≤ t + 12 → j ≠ t → j ≠ t + 1 → j ≠ t + 3 → bcm M1 t cur k j = M j := fun j y1 y2 y3 y4 y5 => by rw [r1 j y3 y4 y5]; exact s1 j y1 y2
  have st := s1 t (by omega) (by omega)
  have s3 := s1 (t + 3) (by omega) (by omega)
  have z2 := q1 (t + 2) (by omega) (by omega) (by omega) (by omega) (by omega)
  have z4 := q1 (t + 4) (by omega) (by omega) (by omega) (by omega) (by omega)
  have z5 := q1 (t + 5) (by omega) (by omega) (by omega) (by omega) (by omega)
  have z6 := q1 (t + 6) (by omega) (by omega) (by omega) (by omega) (by omega)
  have z7 := q1 (t + 7) (by omega) (by omega) (by omega) (by omega) (by omega)
  have z8 := q1 (t + 8) (by omega) (by omega) (by omega) (by omega) (by omega)
  have z9 := q1 (t + 9) (by omega) (by omega) (by omega) (by omega) (by omega)
  have za := q1 (t + 10) (by omega) (by omega) (by omega) (by omega) (by omega)
  have zb := q1 (t + 11) (by omega) (by omega) (by omega) (by omega) (by omega)
  have zc := q1 (t + 12) (by omega) (by omega) (by omega) (by omega) (by omega)
  exact ⟨fun x hx => ⟨by rw [r5 x, if_neg hx, s3], by rw [z4], by rw [z5], by rw [z7], by rw [z8], fun y _ _ => by rw [zc]⟩, fun x _ => ⟨by rw [z6], by rw [z9], by rw [za], by rw [zb]⟩, fun x _ => by rw [z2], by rw [r2 1 (by decide), st]; exact Int.le_refl _, by rw [r2 4 (by decide), st]; exact Int.le_refl _⟩
end CPA
