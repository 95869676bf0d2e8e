/-! ===== the class: leaves keep the invariant ===== -/
/-- a node's rows are in normal form, the tree is as it was -/
def nmS (t : Nat) (M M1 : xM) (l l' : Nat) : Prop := (∀ j, t ≤ j → j ≤ t + 12 → M1 j = M j) ∧ M1 39 = M 39 ∧ M1 40 = M 40 ∧ grL M M1 ∧ M1 30 0 + 2 * l = M 30 0 + 2 * l' ∧ M1 34 0 + 86 * M 30 0 ≤ M 34 0 + 86 * M1 30 0
section CIZ
variable {D : xM} {t : Nat} {m i at_ : Int} {M M1 : xM} {nd : Int → aN} {pi : Int → Int → Int}
theorem wtC_gr {M' : xM} {x : Int} (hg : grL M M') (h39 : M' 39 = M 39) (h40 : M' 40 = M 40) (h : wtC D M nd pi x) : wtC D M' nd pi x :=
  ⟨by rw [h40]; exact h.1, fun r q hq => by rw [h39]; exact crw_gr hg (h.2 r q hq)⟩
/-- no row is left -/
theorem iv_fail {e : yE} {cs cl : Nat} {evs : List aV} {ws : List Int} (h99 : 99 < t) (ht : XSh6 t e) (hP : hpP e M1 cs cl) (h : ivT D t m M nd pi evs (i :: ws)) (hq : shp D (nd i).1 (nd i).2.1 (nd i).2.2.2.2 = some ([], at_)) (hat : at_ < 0) (hS : nmS t M M1 (nd i).2.2.2.2.length 0) : ivT D t m (bcm M1 t i 3) nd pi (evs ++ [(3, 0, (nd i).2.2.2.1)]) ws ∧ hpP e (bcm M1 t i 3) cs cl := by
  have h' := h
  obtain ⟨a1, ⟨b1, b2, b3, b4, b5⟩, ⟨c1, c2⟩, d1, ⟨e1, e2⟩, ⟨f1, f2⟩, g1, g2, ⟨k1, k2⟩⟩ := h'
  obtain ⟨s1, s39, s40, sg, s30, s34⟩ := hS
  obtain ⟨r1, r2, r3, r4, r5⟩ := bcm_fr (M := M1) (t := t) (i := i) (k := 3)
  obtain ⟨hp7, gr7, -⟩ := hpC_cg (M' := bcm M1 t i 3) hP.1 (r1 30 (by omega) (by omega) (by omega)) (r1 34 (by omega) (by omega) (by omega)) (fun j hj => r1 j (fun y => nC_t ht (by rw [← y]; exact hj)) (fun y => nC_a (a6_1 ht) (by decide) (by rw [← y]; exact hj)) (fun y => nC_a (a6_3 ht) (by decide) (by rw [← y]; exact hj)))
  have ev : evt D m (nd i).2.2.2.1 [] at_ = (3, 0, (nd i).2.2.2.1) := by unfold evt; rw [if_pos hat]
  have hch : chd D m (nd i).1 (nd i).2.1 (nd i).2.2.1 (nd i).2.2.2.1 [] at_ = [] := by unfold chd; rw [if_pos hat]
  have q1 : ∀ j, t ≤ j → j ≤ t + 12 → j ≠ t → j ≠ t + 1 → j ≠ t + 3 → bcm M1 t i 3 j = M j := fun j y1 y2 y3 y4 y5 => by rw [r1 j y3 y4 y5]; exact s1 j y1 y2
  have qt : ∀ x, x ≠ 3 → bcm M1 t i 3 t x = M t x := fun x hx => by rw [r2 x hx, s1 t (by omega) (by omega)]
  have hst := s1 t (by omega) (by omega)
  have e30 : bcm M1 t i 3 30 0 = M1 30 0 := by rw [r1 30 (by omega) (by omega) (by omega)]
  have e34 : bcm M1 t i 3 34 0 = M1 34 0 := by rw [r1 34 (by omega) (by omega) (by omega)]
  refine ⟨?_, hp7, hP.2⟩
  have fs : sumR ((i :: ws).map nd) = (nd i).2.2.2.2.length + sumR (ws.map nd) := rfl
  rw [fs] at f1
  have := iv_step (M' := bcm M1 t i 3) (nd' := nd) (pi' := pi) (n := 0) h hq (fun x _ => ⟨rfl, rfl⟩) ⟨fun x hx => ⟨by rw [r5 x, if_neg hx, s1 (t + 3) (by omega) (by omega)], by rw [q1 (t + 4) (by omega) (by omega) (by omega) (by omega) (by omega)], by rw [q1 (t + 5) (by omega) (by omega) (by omega) (by omega) (by omega)], by rw [q1 (t + 7) (by omega) (by omega) (by omega) (by omega) (by omega)], by rw [q1 (t + 8) (by omega) (by omega) (by omega) (by omega) (by omega)], fun y _ _ => by rw [q1 (t + 12) (by omega) (by omega) (by omega) (by omega) (by omega)]⟩, fun x _ => ⟨by rw [q1 (t + 6) (by omega) (by omega) (by omega) (by omega) (by omega)], by rw [q1 (t + 9) (by omega) (by omega) (by omega) (by omega) (by omega)], by rw [q1 (t + 10) (by omega) (by omega) (by omega) (by omega) (by omega)], by rw [q1 (t + 11) (by omega) (by omega) (by omega) (by omega) (by omega)]⟩, fun x _ => by rw [q1 (t + 2) (by omega) (by omega) (by omega) (by omega) (by omega)], by rw [qt 1 (by decide)]; exact Int.le_refl _, by rw [qt 4 (by decide)]; exact Int.le_refl _⟩ (by rw [qt 0 (by decide)]; exact b1) (by rw [qt 1 (by decide)]; omega) (by rw [qt 1 (by decide)]; exact b3) (by rw [qt 1 (by decide), qt 4 (by decide)]; exact b5) (by rw [hch]; rfl) ⟨[], at_, hq, fun z => by omega, fun _ => ⟨fun _ => by rw [r5 i, if_pos rfl], fun r rs hr => by cases hr⟩⟩ (fun x x0 x1 => by rw [qt 1 (by decide)] at x1; omega) (fun x _ hx => wtC_gr (grL_trans sg gr7) (by rw [r1 39 (by omega) (by omega) (by omega)]; exact s39) (by rw [r1 40 (by omega) (by omega) (by omega)]; exact s40) hx) (by rw [e30]; show M1 30 0 ≤ 24 + 48 * ((evs.length : Int) + 1) + 2 * (((0 : Nat) : Int) + _); omega) (by rw [e30, e34]; omega) (fun k k0 k4 => by rw [ev, r4 k, s1 (t + 1) (by omega) (by omega)]; show _ = _ + (if (3 : Int) = k then 1 else 0); by_cases z : k = 3; (rw [if_pos z, if_pos z.symm, z]); (rw [if_neg z, if_neg (fun y => z y.symm)]; omega)) (by rw [ev, qt 2 (by decide)]; show _ = if (3 : Int) = 1 ∨ (3 : Int) = 2 then _ else _; rw [if_neg (by omega)]) (by rw [ev, r3, hst])
  rw [ev] at this
  exact this
end CIZ
