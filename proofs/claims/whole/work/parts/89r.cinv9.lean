/-! ===== the class: a test keeps the invariant, whole ===== -/
section CJF
variable {D : xM} {t : Nat} {m i at_ : Int} {M M1 M' : xM} {nd : Int → aN} {pi : Int → Int → Int}
theorem iv_test {e e' : yE} {cs cl cs' cl' : Nat} {evs : List aV} {ws : List Int} {rows : List aR} {n : Nat} (hw : wfP D) (hwt : wfT D) (hwb : wfB D) (h99 : 99 < t) (ht : XSh6 t e) (h : ivT D t m M nd pi evs (i :: ws)) (hq : shp D (nd i).1 (nd i).2.1 (nd i).2.2.2.2 = some (rows, at_)) (hat : 0 ≤ at_) (hS : nmS t M M1 (nd i).2.2.2.2.length rows.length) (hn : n = (brs D ((nd i).2.2.2.1 88 ((nd i).2.1 at_)) at_ rows).length) (hlt : M t 1 + n ≤ 120) (hk : tsN D t (pi i) (nd i).1 (nd i).2.1 (nd i).2.2.1 ((nd i).2.2.2.1 88 ((nd i).2.1 at_)) at_ rows i n ws e M1 cs cl e' M' cs' cl') : ∃ nd' pi', (∀ x, x < M t 1 → nd' x = nd x ∧ pi' x = pi x) ∧ ivT D t m M' nd' pi' (evs ++ [(0, 0, (nd i).2.2.2.1)]) (rng (M t 1) n ++ ws) := by
  have hkp := kpO_ts h99 ht hS.1 hk
  obtain ⟨⟨b1, b2, b3, b4, b5⟩, ⟨-, c2⟩, ⟨f1, f2⟩⟩ : (M t 0 = 0 ∧ M t 1 = evs.length + (i :: ws).length ∧ M t 1 ≤ 120 ∧ 0 ≤ M t 4 ∧ M t 4 ≤ 3 * M t 1) ∧ ((i :: ws).Nodup ∧ ∀ j ∈ i :: ws, 0 ≤ j ∧ j < M t 1) ∧ (M 30 0 ≤ 24 + 48 * evs.length + 2 * sumR ((i :: ws).map nd) ∧ M 34 0 ≤ 86 * M 30 0) := ⟨h.2.1, h.2.2.1, h.2.2.2.2.2.1⟩
  have hi := c2 i (List.mem_cons_self ..)
  have hwsb : ∀ x ∈ ws, 0 ≤ x ∧ x < M t 1 := fun x hx => c2 x (List.mem_cons_of_mem _ hx)
  have hnd := h.2.2.2.1
  obtain ⟨n1, n2, n3, n4⟩ := (hnd i hi.1 hi.2).1
  obtain ⟨hN', hcs⟩ := wfN_shp hw n1 hq
  have hU' := shp_U hw hwb n1 n2 hq
  obtain ⟨haw, hrn, hne⟩ : (0 ≤ at_ ∧ at_ < (nd i).1) ∧ rows ≠ [] ∧ ∀ q ∈ rows, ¬ (0 ≤ q.2.1 at_ ∧ D 68 (q.2.1 at_) = 4) := by
    rcases hcs with z | z
    · exact absurd hat (by rw [z.1]; decide)
    · exact z
  obtain ⟨s1, s39, s40, sg, s30, s34⟩ := hS
  obtain ⟨⟨-, -, -, hgr⟩, r1, -, ⟨r2, r3, r4, r5⟩, r11, q3, q5, q2, q6, q7, q8, q9, q39, qw, qb, q30, q34⟩ := hk
  have st := s1 t (Nat.le_refl _) (Nat.le_add_right _ _)
  rw [st] at r2 r3 r4 r5 q2 q6 q7 q9 q39 qb
  obtain ⟨B, eB⟩ : ∃ B, B = M t 1 := ⟨_, rfl⟩
  rw [← eB] at r3 q6 q7 q9 q39 qb ⊢
  obtain ⟨vv, evd⟩ : ∃ vv, vv = evt D m (nd i).2.2.2.1 rows at_ := ⟨_, rfl⟩
  have hnat : ¬ at_ < 0 := Int.not_lt.mpr hat
  have ev : vv = (0, 0, (nd i).2.2.2.1) := by rw [evd]; unfold evt; rw [if_neg hnat]
  have hch : chd D m (nd i).1 (nd i).2.1 (nd i).2.2.1 (nd i).2.2.2.1 rows at_ = (brs D ((nd i).2.2.2.1 88 ((nd i).2.1 at_)) at_ rows).map (fun x => chB D (nd i).1 (nd i).2.1 (nd i).2.2.1 (nd i).2.2.2.1 at_ rows x.1 x.2) := by
    unfold chd; rw [if_neg hnat, brs_ch]
  have hsum := chT_sum (D := D) (w := (nd i).1) (np := (nd i).2.2.1) (E := (nd i).2.2.2.1) (at_ := at_) (col := (nd i).2.1) rows
  have hple := brs_le (D := D) (at_ := at_) (ty := (nd i).2.2.2.1 88 ((nd i).2.1 at_)) rows
  rw [brs_ch] at hsum
  have z1 : vv.1 = 0 := by rw [ev]
  have t2 : M' t 2 = if vv.1 = 1 ∨ vv.1 = 2 then xor32 (M t 2) (xshl32 1 vv.2.1) else M t 2 := by
    rw [z1, if_neg (fun y => by rcases y with y | y <;> exact absurd y (by decide)), r2 2 (by decide) (by decide)]
  have t3 : M' t 3 = if vv.1 = 3 ∧ M t 3 = -1 then i else M t 3 := by
    rw [z1, if_neg (fun y => absurd y.1 (by decide)), r2 3 (by decide) (by decide)]
  have st1 := s1 (t + 1) (by omega) (by omega)
  have etl : ∀ k, 0 ≤ k → k < 4 → M' (t + 1) k = M (t + 1) k + if vv.1 = k then 1 else 0 := by
    intro k k0 k4
    rw [z1, r11 k, st1]
    by_cases z : k = 0
    · rw [if_pos z, if_pos z.symm, z]
    · rw [if_neg z, if_neg (fun y => z y.symm), Int.add_zero]
  have e0 : M' t 0 = 0 := by rw [r2 0 (by decide) (by decide)]; exact b1
  obtain ⟨ty, ety⟩ : ∃ ty, ty = (nd i).2.2.2.1 88 ((nd i).2.1 at_) := ⟨_, rfl⟩
  obtain ⟨L, eL⟩ : ∃ L, L = brs D ((nd i).2.2.2.1 88 ((nd i).2.1 at_)) at_ rows := ⟨_, rfl⟩
  rw [← eL] at qb q30 q34 hch hsum hple
  rw [← eL] at hn
  obtain ⟨nd', end'⟩ : ∃ nd' : Int → aN, nd' = fun x => if x < B then nd x else ((L[(x - B).toNat]?).map (fun y => chB D (nd i).1 (nd i).2.1 (nd i).2.2.1 (nd i).2.2.2.1 at_ rows y.1 y.2)).getD (nd 0) := ⟨_, rfl⟩
  obtain ⟨pi', epi'⟩ : ∃ pi' : Int → Int → Int, pi' = fun x => if x < B then pi x else piN (pi i) (nd i).2.2.1 (M' (t + 11) x) := ⟨_, rfl⟩
  have hnB : ∀ (j : Nat) y, L[j]? = some y → nd' (B + j) = chB D (nd i).1 (nd i).2.1 (nd i).2.2.1 (nd i).2.2.2.1 at_ rows y.1 y.2 := by
    intro j y hy
    rw [end']
    show (if B + (j : Int) < B then _ else _) = _
    rw [if_neg (by omega), show (B + (j : Int) - B).toNat = j by omega, hy]; rfl
  have hpB : ∀ x, B ≤ x → pi' x = piN (pi i) (nd i).2.2.1 (M' (t + 11) x) := fun x hx => by
    rw [epi']; exact if_neg (Int.not_lt.mpr hx)
  have hlo : ∀ x, x < M t 1 → nd' x = nd x ∧ pi' x = pi x := fun x hx => by
    rw [← eB] at hx
    exact ⟨by rw [end']; exact if_pos hx, by rw [epi']; exact if_pos hx⟩
  obtain ⟨li1, li2⟩ := hlo i hi.2
  have hmap : (rng B n).map nd' = L.map (fun x => chB D (nd i).1 (nd i).2.1 (nd i).2.2.1 (nd i).2.2.2.1 at_ rows x.1 x.2) := by
    rw [hn]; exact rng_map (fun j y hy => hnB j y hy)
  have hrl := hN'.2.2
  have fs : sumR ((i :: ws).map nd) = (nd i).2.2.2.2.length + sumR (ws.map nd) := rfl
  rw [fs] at f1
  have hacc : rows.length * 2 + nPS D at_ rows L ≤ 48 + 2 * sumR (L.map (fun x => chB D (nd i).1 (nd i).2.1 (nd i).2.2.1 (nd i).2.2.2.1 at_ rows x.1 x.2)) := by
    by_cases z : L = []
    · rw [z]; show rows.length * 2 + 0 ≤ 48 + 2 * 0; omega
    · have := hsum z; omega
  have x30 : M' 30 0 ≤ 24 + 48 * ((evs.length : Int) + 1) + 2 * ((sumR (L.map (fun x => chB D (nd i).1 (nd i).2.1 (nd i).2.2.1 (nd i).2.2.2.1 at_ rows x.1 x.2)) : Int) + (sumR (ws.map nd) : Int)) := by
    clear r1 r2 r11 q3 q5 q2 q6 q7 q8 q9 q39 qw qb t2 t3 etl hnB hpB hlo hkp hsum c2 hwsb hnd
    omega
  have x34 : M' 34 0 ≤ 86 * M' 30 0 := by
    clear r1 r2 r11 q3 q5 q2 q6 q7 q8 q9 q39 qw qb t2 t3 etl hnB hpB hlo hkp hsum c2 hwsb hnd
    omega
  have hmem : ∀ (j : Nat) k o, L[j]? = some (k, o) → (k, o) ∈ brs D ((nd i).2.2.2.1 88 ((nd i).2.1 at_)) at_ rows := fun j k o hj => by rw [← eL]; exact List.mem_of_getElem? hj
  have hjn : ∀ (j : Nat) y, L[j]? = some y → j < n := fun j y hj => by rw [hn]; exact (List.getElem?_eq_some_iff.mp hj).1
  have epr : prC D t m M' nd' pi' i := by
    refine ⟨rows, at_, by rw [li1]; exact hq, fun _ => ⟨by rw [q3 i, if_pos rfl], by rw [q5 i, if_pos rfl, li1, li2], by rw [q8 i, if_pos rfl, li1, ← eL, hn], fun j k o hj => ?_⟩, fun z => absurd z hnat⟩
    rw [li1, ← eL] at hj
    obtain ⟨f, g1, g2, g3, g4, g5, g6, g7⟩ := qb j k o hj
    have hj2 := hjn j _ hj
    rw [q7 i, if_pos rfl]
    unfold brC
    rw [li1, li2, hpB _ (by omega), hnB j _ hj, q6, if_pos (show B ≤ B + (j : Int) ∧ B + (j : Int) < B + n by omega), g5, r3]
    exact ⟨⟨by omega, by omega⟩, rfl, rfl, g3, g4, rfl, ⟨by omega, g2⟩, g7⟩
  have z40 : ∀ y, ¬ (B ≤ y ∧ y < B + n) → M' 40 y = M 40 y := fun y hy => by rw [(q9 y hy).2.2.2, s40]
  have z39 : ∀ y, ¬ (B * 24 ≤ y ∧ y < (B + n) * 24) → M' 39 y = M 39 y := fun y hy => by rw [q39 y hy, s39]
  have ew : ∀ x ∈ ws, wtC D M nd pi x → wtC D M' nd pi x := fun x hx hx2 => kpt_o (b := B) (n := n) (grL_trans sg hgr) z40 z39 (by rw [eB]; exact (hwsb x hx).2) ((hnd x (hwsb x hx).1 (hwsb x hx).2).1.1.2.2) hx2
  have st2 := s1 (t + 2) (by omega) (by omega)
  have enew : ∀ x, M t 1 ≤ x → x < M' t 1 → ndC D t M' nd' pi' x ∧ wtC D M' nd' pi' x := by
    intro x x0 x1
    rw [← eB] at x0
    rw [r3] at x1
    obtain ⟨j, hj⟩ : ∃ j : Nat, x = B + j := ⟨(x - B).toNat, by omega⟩
    have hjl : j < L.length := by omega
    have hjg := List.getElem?_eq_getElem hjl
    obtain ⟨⟨k, o⟩, ey⟩ : ∃ y, y = L[j] := ⟨_, rfl⟩
    rw [← ey] at hjg
    obtain ⟨f, g1, g2, g3, g4, g5, g6, g7⟩ := qb j k o hjg
    rw [hj]
    have hpx := hpB (B + j) (by omega)
    rw [g5] at hpx
    have hnx := hnB j _ hjg
    refine ⟨ndC_br (M := M) (f := f) (π := pi i) hw hwt hwb hN' hU' haw hne (hmem j k o hjg) n3 b4 n4 (fun x hx => by rw [q2 x hx, st2]) g1 g2 g7 hnx hpx, ?_⟩
    unfold wtC
    rw [hnx, hpx]
    exact g6
  subst evd
  refine ⟨nd', pi', by rw [eB]; exact hlo, ?_⟩
  have := iv_step (M' := M') (nd' := nd') (pi' := pi') (n := n) h hq hlo hkp e0 (by rw [r3, eB]) (by rw [r3, eB]; exact hlt) (by rw [r3, eB]; omega) (by rw [hch, ← eB]; exact hmap) epr enew ew (by rw [← eB, hmap]; exact x30) x34 etl t2 t3
  rw [ev, ← eB] at this
  exact this
end CJF
