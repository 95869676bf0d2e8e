/-! ===== the class: a row taken keeps the invariant ===== -/
section CJA
variable {D : xM} {t : Nat} {m i at_ : Int} {M M1 M' : xM} {nd : Int → aN} {pi : Int → Int → Int}
theorem tk_hp {e : yE} {cs cl : Nat} {π : Int → Int} {k : Int} {r : aR} (h99 : 99 < t) (ht : XSh6 t e) (hP : hpP e M1 cs cl) (hk : tkN t i π k r M1 M') : hpP e M' cs cl ∧ grL M1 M' := by
  have r1 := hk.1
  obtain ⟨hp7, gr7, -⟩ := hpC_cg (M' := M') hP.1 (r1 30 (by omega) (by omega) (by omega) (by omega) (by omega)) (r1 34 (by omega) (by omega) (by omega) (by omega) (by omega)) (fun j hj => r1 j (fun y => nC_t ht (by rw [← y]; exact hj)) (fun y => nC_a (a6_1 ht) (by decide) (by rw [← y]; exact hj)) (fun y => nC_a (a6_3 ht) (by decide) (by rw [← y]; exact hj)) (fun y => nC_a (a6_4 ht) (by decide) (by rw [← y]; exact hj)) (fun y => nC_a (a6_12 ht) (by decide) (by rw [← y]; exact hj)))
  exact ⟨⟨hp7, hP.2⟩, gr7⟩
theorem i16 {x y : Int} (h : x ≠ i) (y0 : 0 ≤ y) (y1 : y < 16) : ¬ (i * 16 ≤ x * 16 + y ∧ x * 16 + y < i * 16 + 16) := fun z => h (by omega)
theorem kpO_tk {π : Int → Int} {k : Int} {r : aR} (s1 : ∀ j, t ≤ j → j ≤ t + 12 → M1 j = M j) (hk : tkN t i π k r M1 M') : kpO t M M' (fun x => x ≠ i) := by
  obtain ⟨r1, r2, -, -, r5, r6, r7, -⟩ := hk
  have q1 : ∀ j, t ≤ j → j ≤ t + 12 → j ≠ t → j ≠ t + 1 → j ≠ t + 3 → j ≠ t + 4 → j ≠ t + 12 → M' j = M j := fun j y1 y2 y3 y4 y5 y6 y7 => by rw [r1 j y3 y4 y5 y6 y7]; exact s1 j y1 y2
  have qt : ∀ x, x ≠ 2 → M' t x = M t x := fun x hx => by rw [r2 x hx, s1 t (by omega) (by omega)]
  have z2 := q1 (t + 2) (by omega) (by omega) (by omega) (by omega) (by omega) (by omega) (by omega)
  have z5 := q1 (t + 5) (by omega) (by omega) (by omega) (by omega) (by omega) (by omega) (by omega)
  have z6 := q1 (t + 6) (by omega) (by omega) (by omega) (by omega) (by omega) (by omega) (by omega)
  have z7 := q1 (t + 7) (by omega) (by omega) (by omega) (by omega) (by omega) (by omega) (by omega)
  have z8 := q1 (t + 8) (by omega) (by omega) (by omega) (by omega) (by omega) (by omega) (by omega)
  have z9 := q1 (t + 9) (by omega) (by omega) (by omega) (by omega) (by omega) (by omega) (by omega)
  have za := q1 (t + 10) (by omega) (by omega) (by omega) (by omega) (by omega) (by omega) (by omega)
  have zb := q1 (t + 11) (by omega) (by omega) (by omega) (by omega) (by omega) (by omega) (by omega)
  have s3 := s1 (t + 3) (by omega) (by omega)
  have s4 := s1 (t + 4) (by omega) (by omega)
  have s12 := s1 (t + 12) (by omega) (by omega)
  refine ⟨fun x hx => ⟨by rw [r5 x, if_neg hx, s3], by rw [r6 x, if_neg hx, s4], by rw [z5], by rw [z7], by rw [z8], fun y y0 y1 => by rw [r7 _ (i16 hx y0 y1), s12]⟩, fun x _ => ⟨by rw [z6], by rw [z9], by rw [za], by rw [zb]⟩, fun x _ => by rw [z2], by rw [qt 1 (by decide)]; exact Int.le_refl _, by rw [qt 4 (by decide)]; exact Int.le_refl _⟩
theorem iv_take {e : yE} {cs cl : Nat} {evs : List aV} {ws : List Int} {r : aR} {rs : List aR} (h99 : 99 < t) (ht : XSh6 t e) (hP : hpP e M1 cs cl) (h : ivT D t m M nd pi evs (i :: ws)) (hq : shp D (nd i).1 (nd i).2.1 (nd i).2.2.2.2 = some (r :: rs, at_)) (hat : at_ < 0) (hl : (r :: rs).length ≤ 24) (hS : nmS t M M1 (nd i).2.2.2.2.length (r :: rs).length) (hg : D 79 (12 * m + r.1) < 0) (hk : tkN t i (pi i) 2 r M1 M') : ivT D t m M' nd pi (evs ++ [(2, r.1, (nd i).2.2.2.1)]) ws := by
  have hkp := kpO_tk hS.1 hk
  obtain ⟨-, gr7⟩ := tk_hp h99 ht hP hk
  obtain ⟨⟨b1, -, b3, -, b5⟩, ⟨f1, f2⟩⟩ : (M t 0 = 0 ∧ M t 1 = evs.length + (i :: ws).length ∧ M t 1 ≤ 120 ∧ 0 ≤ M t 4 ∧ M t 4 ≤ 3 * M t 1) ∧ (M 30 0 ≤ 24 + 48 * evs.length + 2 * sumR ((i :: ws).map nd) ∧ M 34 0 ≤ 86 * M 30 0) := ⟨h.2.1, h.2.2.2.2.2.1⟩
  obtain ⟨s1, s39, s40, sg, s30, s34⟩ := hS
  obtain ⟨r1, r2, r3, r4, r5, r6, -, r8⟩ := hk
  obtain ⟨vv, evd⟩ : ∃ vv, vv = evt D m (nd i).2.2.2.1 (r :: rs) at_ := ⟨_, rfl⟩
  have ev : vv = (2, r.1, (nd i).2.2.2.1) := by
    rw [evd]; unfold evt; rw [if_pos hat]
    show (if D 79 (12 * m + r.1) < 0 then _ else _) = _
    rw [if_pos hg]
  have hch : chd D m (nd i).1 (nd i).2.1 (nd i).2.2.1 (nd i).2.2.2.1 (r :: rs) at_ = [] := by
    unfold chd; rw [if_pos hat]
    show (if D 79 (12 * m + r.1) < 0 then _ else _) = _
    rw [if_pos hg]
  have st := s1 t (Nat.le_refl _) (Nat.le_add_right _ _)
  have qt : ∀ x, x ≠ 2 → M' t x = M t x := fun x hx => by rw [r2 x hx, st]
  have n30 : ∀ c : Nat, c ≤ 99 → M' c = M1 c := fun c hc => r1 c (by omega) (by omega) (by omega) (by omega) (by omega)
  have e30 : M' 30 0 = M1 30 0 := by rw [n30 30 (by decide)]
  have e34 : M' 34 0 = M1 34 0 := by rw [n30 34 (by decide)]
  have fs : sumR ((i :: ws).map nd) = (nd i).2.2.2.2.length + sumR (ws.map nd) := rfl
  rw [fs] at f1
  have z1 : vv.1 = 2 := by rw [ev]
  have z2 : vv.2.1 = r.1 := by rw [ev]
  have e2 : M' t 2 = if vv.1 = 1 ∨ vv.1 = 2 then xor32 (M t 2) (xshl32 1 vv.2.1) else M t 2 := by
    rw [if_pos (Or.inr z1), z2, r3, st]
  have e3 : M' t 3 = if vv.1 = 3 ∧ M t 3 = -1 then i else M t 3 := by
    rw [z1, if_neg (fun y => absurd y.1 (by decide)), qt 3 (by decide)]
  have st1 := s1 (t + 1) (by omega) (by omega)
  have etl : ∀ k, 0 ≤ k → k < 4 → M' (t + 1) k = M (t + 1) k + if vv.1 = k then 1 else 0 := by
    intro k k0 k4
    rw [z1, r4 k, st1]
    by_cases z : k = 2
    · rw [if_pos z, if_pos z.symm, z]
    · rw [if_neg z, if_neg (fun y => z y.symm), Int.add_zero]
  have epr : prC D t m M' nd pi i := by
    refine ⟨r :: rs, at_, hq, fun z => absurd hat (Int.not_lt.mpr z), fun _ => ⟨fun y => (by cases y), fun r' rs' hr => ?_⟩⟩
    obtain ⟨z1, z2⟩ := List.cons.inj hr
    rw [← z1]
    exact ⟨by rw [r6 i, if_pos rfl], r8, fun _ => by rw [r5 i, if_pos rfl], fun z => absurd hg z⟩
  have ew : ∀ x ∈ ws, wtC D M nd pi x → wtC D M' nd pi x := fun x _ hx => wtC_gr (grL_trans sg gr7) (by rw [n30 39 (by decide)]; exact s39) (by rw [n30 40 (by decide)]; exact s40) hx
  have e0 : M' t 0 = 0 := by rw [qt 0 (by decide)]; exact b1
  have e1 : M' t 1 = M t 1 := qt 1 (by decide)
  have e4 : M' t 4 = M t 4 := qt 4 (by decide)
  have x30 : M1 30 0 ≤ 24 + 48 * ((evs.length : Int) + 1) + 2 * (((0 : Nat) : Int) + (sumR (ws.map nd) : Int)) := by
    clear r1 r2 r3 r4 r5 r6 r8 etl e2 e3 ew epr hkp
    omega
  have x34 : M1 34 0 ≤ 86 * M1 30 0 := by
    clear r1 r2 r3 r4 r5 r6 r8 etl e2 e3 ew epr hkp
    omega
  subst evd
  have := iv_step (M' := M') (nd' := nd) (pi' := pi) (n := 0) h hq (fun x _ => ⟨rfl, rfl⟩) hkp e0 (by rw [e1]; exact (Int.add_zero _).symm) (by rw [e1]; exact b3) (by rw [e1, e4]; exact b5) (by rw [hch]; rfl) epr (fun x x0 x1 => absurd x0 (Int.not_le.mpr (e1 ▸ x1))) ew (by rw [e30]; exact x30) (by rw [e30, e34]; exact x34) etl e2 e3
  rw [ev] at this
  exact this
end CJA
