/-! ===== the class: a question keeps the invariant ===== -/
section CJB
variable {D E : xM} {w np at_ : Int} {col : Int → Int}
theorem shp_U {rows rows' : List aR} (hw : wfP D) (hb : wfB D) (hn : wfN D w col np E rows) (hU : ∀ r ∈ rows, nmU D w r) (h : shp D w col rows = some (rows', at_)) : ∀ r ∈ rows', nmU D w r := by
  have := shp_ok (P := fun r => okR D w col np E r ∧ nmU D w r) hn.1.1 (fun r a j h0 h1 h2 h3 h4 h5 h6 => ⟨okR_spl hw hn.1 h0 h1 h2.1 h3 h4 h5 h6, nmU_spl hw hb hn.1 h2.1.1 ⟨h0, h1⟩ h3 h4 h5 h6 h2.2⟩) h (fun q hq => ⟨hn.2.1 q hq, hU q hq⟩) hn.2.2
  exact fun r hr => (this.1 r hr).2
theorem chB_U {rows : List aR} (hw : wfP D) (ht : wfT D) (hb : wfB D) (hn : wfN D w col np E rows) (hU : ∀ r ∈ rows, nmU D w r) (hat : 0 ≤ at_ ∧ at_ < w) (hne : ∀ q ∈ rows, ¬ (0 ≤ q.2.1 at_ ∧ D 68 (q.2.1 at_) = 4)) {k : Int} {o : Bool} (hk : okK D (E 88 (col at_)) k o) (hmr : 0 ≤ bMn D (E 88 (col at_)) k o ∧ bMn D (E 88 (col at_)) k o ≤ 3) : ∀ r ∈ (chB D w col np E at_ rows k o).2.2.2.2, nmU D (chB D w col np E at_ rows k o).1 r := by
  intro r' hr'
  obtain ⟨r, hr, rfl, hin⟩ := bRs_mem rows hr'
  exact nmU_bRw hw hb hmr hat (hn.2.1 r hr).1 (hne r hr) hin rfl (hU r hr)
end CJB
section CJC
variable {D : xM} {t : Nat} {m i at_ : Int} {M M1 M2 M' : xM} {nd : Int → aN} {pi : Int → Int → Int}
theorem kpO_trans {keep : Int → Prop} (h : kpO t M M1 keep) (h2 : kpO t M1 M2 keep) : kpO t M M2 keep := by
  obtain ⟨a1, a2, a3, a4, a5⟩ := h
  obtain ⟨b1, b2, b3, b4, b5⟩ := h2
  refine ⟨fun x hx => ?_, fun x hx => ?_, fun x hx => ?_, Int.le_trans a4 b4, Int.le_trans a5 b5⟩
  · obtain ⟨c1, c2, c3, c4, c5, c6⟩ := a1 x hx
    obtain ⟨d1, d2, d3, d4, d5, d6⟩ := b1 x hx
    exact ⟨d1.trans c1, d2.trans c2, d3.trans c3, d4.trans c4, d5.trans c5, fun y y0 y1 => (d6 y y0 y1).trans (c6 y y0 y1)⟩
  · obtain ⟨c1, c2, c3, c4⟩ := a2 x hx
    obtain ⟨d1, d2, d3, d4⟩ := b2 x (Int.lt_of_lt_of_le hx a4)
    exact ⟨d1.trans c1, d2.trans c2, d3.trans c3, d4.trans c4⟩
  · exact (b3 x (Int.lt_of_lt_of_le hx a5)).trans (a3 x hx)
theorem kpO_qs {b w : Int} {π col : Int → Int} {rs : List aR} {ws : List Int} (h99 : 99 < t) (hb : M t 1 = b) (hk : qsN D t i b π w col rs ws M M') : kpO t M M' (fun x => x ≠ i) := by
  obtain ⟨r1, r2, r3, r6, r7, r8, -⟩ := hk
  have q1 : ∀ j, t ≤ j → j ≠ t → j ≠ t + 6 → j ≠ t + 7 → j ≠ t + 8 → M' j = M j := fun j y1 y2 y3 y4 y5 => r1 j y2 y3 y4 y5 (by omega) (by omega) (by omega) (by omega)
  have z2 := q1 (t + 2) (by omega) (by omega) (by omega) (by omega) (by omega)
  have z3 := q1 (t + 3) (by omega) (by omega) (by omega) (by omega) (by omega)
  have z4 := q1 (t + 4) (by omega) (by omega) (by omega) (by omega) (by omega)
  have z5 := q1 (t + 5) (by omega) (by omega) (by omega) (by omega) (by omega)
  have z9 := q1 (t + 9) (by omega) (by omega) (by omega) (by omega) (by omega)
  have za := q1 (t + 10) (by omega) (by omega) (by omega) (by omega) (by omega)
  have zb := q1 (t + 11) (by omega) (by omega) (by omega) (by omega) (by omega)
  have zc := q1 (t + 12) (by omega) (by omega) (by omega) (by omega) (by omega)
  have x4 := r2 4 (by decide)
  refine ⟨fun x hx => ⟨by rw [z3], by rw [z4], by rw [z5], by rw [r7 x, if_neg hx], by rw [r8 x, if_neg hx], fun y y0 y1 => by rw [zc]⟩, fun x hx => ⟨by rw [r6 x, if_neg (by rw [← hb]; exact Int.ne_of_lt hx)], by rw [z9], by rw [za], by rw [zb]⟩, fun x _ => by rw [z2], by rw [r3, hb]; exact Int.le_of_lt (Int.lt_succ _), by rw [x4]; exact Int.le_refl _⟩
theorem kpt_o {x b : Int} {n : Int} {π col : Int → Int} {w : Int} {l : List aR} (hg : grL M M') (h40 : ∀ y, ¬ (b ≤ y ∧ y < b + n) → M' 40 y = M 40 y) (h39 : ∀ y, ¬ (b * 24 ≤ y ∧ y < (b + n) * 24) → M' 39 y = M 39 y) (hx : x < b) (hl : l.length ≤ 24) (h : kpt D M π w col x l) : kpt D M' π w col x l := by
  refine ⟨by rw [h40 x (fun z => by omega)]; exact h.1, fun r q hq => ?_⟩
  have hr : r < l.length := (List.getElem?_eq_some_iff.mp hq).1
  rw [h39 _ (fun z => by omega)]
  exact crw_gr hg (h.2 r q hq)
/-- a row whose guard is asked -/
theorem iv_ask {e : yE} {cs cl : Nat} {evs : List aV} {ws : List Int} {r : aR} {rs : List aR} (hw : wfP D) (hwb : wfB D) (h99 : 99 < t) (ht : XSh6 t e) (h : ivT D t m M nd pi evs (i :: ws)) (hq : shp D (nd i).1 (nd i).2.1 (nd i).2.2.2.2 = some (r :: rs, at_)) (hat : at_ < 0) (hS : nmS t M M1 (nd i).2.2.2.2.length (r :: rs).length) (hg : ¬ D 79 (12 * m + r.1) < 0) (hlt : M t 1 < 120) (hk : tkN t i (pi i) 1 r M1 M2) (hs : qsN D t i (M t 1) (pi i) (nd i).1 (nd i).2.1 rs ws M2 M') (hgr : grL M1 M') : ∃ nd' pi', (∀ x, x < M t 1 → nd' x = nd x ∧ pi' x = pi x) ∧ ivT D t m M' nd' pi' (evs ++ [(1, r.1, (nd i).2.2.2.1)]) (M t 1 :: ws) := by
  have hkp := kpO_tk hS.1 hk
  obtain ⟨⟨b1, b2, b3, b4, b5⟩, ⟨-, c2⟩, ⟨f1, f2⟩⟩ : (M t 0 = 0 ∧ M t 1 = evs.length + (i :: ws).length ∧ M t 1 ≤ 120 ∧ 0 ≤ M t 4 ∧ M t 4 ≤ 3 * M t 1) ∧ ((i :: ws).Nodup ∧ ∀ j ∈ i :: ws, 0 ≤ j ∧ j < M t 1) ∧ (M 30 0 ≤ 24 + 48 * evs.length + 2 * sumR ((i :: ws).map nd) ∧ M 34 0 ≤ 86 * M 30 0) := ⟨h.2.1, h.2.2.1, h.2.2.2.2.2.1⟩
  have hi := c2 i (List.mem_cons_self ..)
  have hwsb : ∀ x ∈ ws, 0 ≤ x ∧ x < M t 1 := fun x hx => c2 x (List.mem_cons_of_mem _ hx)
  have hnd := h.2.2.2.1
  obtain ⟨n1, n2, n3, n4⟩ := (hnd i hi.1 hi.2).1
  obtain ⟨hN', -⟩ := wfN_shp hw n1 hq
  have hU' := shp_U hw hwb n1 n2 hq
  obtain ⟨s1, s39, s40, sg, s30, s34⟩ := hS
  obtain ⟨r1, r2, r3, r4, r5, r6, -, r8⟩ := hk
  obtain ⟨B, eB⟩ : ∃ B, B = M t 1 := ⟨_, rfl⟩
  rw [← eB] at hs ⊢
  have st := s1 t (Nat.le_refl _) (Nat.le_add_right _ _)
  have qt : ∀ x, x ≠ 2 → M2 t x = M t x := fun x hx => by rw [r2 x hx, st]
  have hkp2 := kpO_trans hkp (kpO_qs (b := B) h99 (by rw [qt 1 (by decide), eB]) hs)
  obtain ⟨u1, u2, u3, u6, u7, u8, u29, uw, u40, u39, uk⟩ := hs
  obtain ⟨vv, evd⟩ : ∃ vv, vv = evt D m (nd i).2.2.2.1 (r :: rs) at_ := ⟨_, rfl⟩
  have ev : vv = (1, r.1, (nd i).2.2.2.1) := by
    rw [evd]; unfold evt; rw [if_pos hat]
    show (if D 79 (12 * m + r.1) < 0 then _ else _) = _
    rw [if_neg hg]
  have hch : chd D m (nd i).1 (nd i).2.1 (nd i).2.2.1 (nd i).2.2.2.1 (r :: rs) at_ = [((nd i).1, (nd i).2.1, (nd i).2.2.1, (nd i).2.2.2.1, rs)] := by
    unfold chd; rw [if_pos hat]
    show (if D 79 (12 * m + r.1) < 0 then _ else _) = _
    rw [if_neg hg]
  have n30 : ∀ c : Nat, c ≤ 37 → c ≠ 29 → M' c = M1 c := fun c hc hc2 => by rw [u1 c (by omega) (by omega) (by omega) (by omega) hc2 (by omega) (by omega) (by omega), r1 c (by omega) (by omega) (by omega) (by omega) (by omega)]
  have e30 : M' 30 0 = M1 30 0 := by rw [n30 30 (by decide) (by decide)]
  have e34 : M' 34 0 = M1 34 0 := by rw [n30 34 (by decide) (by decide)]
  have z40 : ∀ y, ¬ (B ≤ y ∧ y < B + 1) → M' 40 y = M 40 y := fun y hy => by rw [u40 y (fun z => hy (by omega)), r1 40 (by omega) (by omega) (by omega) (by omega) (by omega), s40]
  have z39 : ∀ y, ¬ (B * 24 ≤ y ∧ y < (B + 1) * 24) → M' 39 y = M 39 y := fun y hy => by rw [u39 y (fun z => hy (by omega)), r1 39 (by omega) (by omega) (by omega) (by omega) (by omega), s39]
  have fs : sumR ((i :: ws).map nd) = (nd i).2.2.2.2.length + sumR (ws.map nd) := rfl
  rw [fs] at f1
  have z1 : vv.1 = 1 := by rw [ev]
  have z2 : vv.2.1 = r.1 := by rw [ev]
  have t2 : M' t 2 = if vv.1 = 1 ∨ vv.1 = 2 then xor32 (M t 2) (xshl32 1 vv.2.1) else M t 2 := by
    rw [if_pos (Or.inl z1), z2, u2 2 (by decide), r3, st]
  have t3 : M' t 3 = if vv.1 = 3 ∧ M t 3 = -1 then i else M t 3 := by
    rw [z1, if_neg (fun y => absurd y.1 (by decide)), u2 3 (by decide), qt 3 (by decide)]
  have st1 := s1 (t + 1) (by omega) (by omega)
  have ut1 : M' (t + 1) = M2 (t + 1) := u1 _ (by omega) (by omega) (by omega) (by omega) (by omega) (by omega) (by omega) (by omega)
  have ut3 : M' (t + 3) = M2 (t + 3) := u1 _ (by omega) (by omega) (by omega) (by omega) (by omega) (by omega) (by omega) (by omega)
  have ut4 : M' (t + 4) = M2 (t + 4) := u1 _ (by omega) (by omega) (by omega) (by omega) (by omega) (by omega) (by omega) (by omega)
  have ut12 : M' (t + 12) = M2 (t + 12) := u1 _ (by omega) (by omega) (by omega) (by omega) (by omega) (by omega) (by omega) (by omega)
  have etl : ∀ k, 0 ≤ k → k < 4 → M' (t + 1) k = M (t + 1) k + if vv.1 = k then 1 else 0 := by
    intro k k0 k4
    rw [z1, ut1, r4 k, st1]
    by_cases z : k = 1
    · rw [if_pos z, if_pos z.symm, z]
    · rw [if_neg z, if_neg (fun y => z y.symm), Int.add_zero]
  have e0 : M' t 0 = 0 := by rw [u2 0 (by decide), qt 0 (by decide)]; exact b1
  have e4 : M' t 4 = M t 4 := by rw [u2 4 (by decide), qt 4 (by decide)]
  have hlr : (r :: rs).length = rs.length + 1 := rfl
  rw [hlr] at s30
  have x30 : M1 30 0 ≤ 24 + 48 * ((evs.length : Int) + 1) + 2 * (((rs.length + 0 : Nat) : Int) + (sumR (ws.map nd) : Int)) := by
    clear r1 r2 r3 r4 r5 r6 r8 etl t2 t3 hkp hkp2 u1 u2 u6 u7 u8 u29 u40 u39 n30 z40 z39 qt c2
    omega
  have x34 : M1 34 0 ≤ 86 * M1 30 0 := by
    clear r1 r2 r3 r4 r5 r6 r8 etl t2 t3 hkp hkp2 u1 u2 u6 u7 u8 u29 u40 u39 n30 z40 z39 qt c2
    omega
  obtain ⟨nd', end'⟩ : ∃ nd' : Int → aN, nd' = fun x => if x = B then ((nd i).1, (nd i).2.1, (nd i).2.2.1, (nd i).2.2.2.1, rs) else nd x := ⟨_, rfl⟩
  obtain ⟨pi', epi'⟩ : ∃ pi' : Int → Int → Int, pi' = fun x => if x = B then pi i else pi x := ⟨_, rfl⟩
  have hnB : nd' B = ((nd i).1, (nd i).2.1, (nd i).2.2.1, (nd i).2.2.2.1, rs) := by rw [end']; exact if_pos rfl
  have hpB : pi' B = pi i := by rw [epi']; exact if_pos rfl
  have hlo : ∀ x, x < M t 1 → nd' x = nd x ∧ pi' x = pi x := fun x hx => by
    rw [← eB] at hx
    exact ⟨by rw [end']; exact if_neg (Int.ne_of_lt hx), by rw [epi']; exact if_neg (Int.ne_of_lt hx)⟩
  obtain ⟨li1, li2⟩ := hlo i hi.2
  have epr : prC D t m M' nd' pi' i := by
    refine ⟨r :: rs, at_, by rw [li1]; exact hq, fun z => absurd hat (Int.not_lt.mpr z), fun _ => ⟨fun y => (by cases y), fun r' rs' hr => ?_⟩⟩
    obtain ⟨y1, y2⟩ := List.cons.inj hr
    rw [← y1, ← y2, ut3, ut4, ut12, u7 i, if_pos rfl, u8 i, if_pos rfl, u6 B, if_pos rfl, u3, li1, li2, hnB, hpB]
    exact ⟨by rw [r6 i, if_pos rfl], r8, fun z => absurd z hg, fun _ => ⟨by rw [r5 i, if_pos rfl], rfl, ⟨by rw [eB]; exact hi.2, Int.lt_succ _⟩, rfl, rfl, rfl⟩⟩
  have ew : ∀ x ∈ ws, wtC D M nd pi x → wtC D M' nd pi x := fun x hx hx2 => kpt_o (b := B) (n := 1) (grL_trans sg hgr) z40 z39 (by rw [eB]; exact (hwsb x hx).2) ((hnd x (hwsb x hx).1 (hwsb x hx).2).1.1.2.2) hx2
  have enew : ∀ x, M t 1 ≤ x → x < M' t 1 → ndC D t M' nd' pi' x ∧ wtC D M' nd' pi' x := by
    intro x x0 x1
    have hx : x = B := by rw [u3] at x1; rw [← eB] at x0; exact Int.le_antisymm (Int.lt_add_one_iff.mp x1) x0
    rw [hx]
    unfold ndC wtC
    rw [hnB, hpB, e4]
    refine ⟨⟨⟨hN'.1, fun q hq' => hN'.2.1 q (List.mem_cons_of_mem _ hq'), Nat.le_trans (Nat.le_succ _) hN'.2.2⟩, fun q hq' => hU' q (List.mem_cons_of_mem _ hq'), n3, fun q q0 q1 => ?_⟩, uk⟩
    rw [hkp2.2.2.1 _ (n3.1 q q0 q1).2]; exact n4 q q0 q1
  subst evd
  refine ⟨nd', pi', by rw [eB]; exact hlo, ?_⟩
  have := iv_step (M' := M') (nd' := nd') (pi' := pi') (n := 1) h hq hlo hkp2 e0 (by rw [u3, eB]; rfl) (by rw [u3, eB]; exact hlt) (by rw [u3, e4, eB]; omega) (by rw [hch, ← eB]; show [nd' B] = _; rw [hnB]) epr enew ew (by rw [e30, ← eB]; show _ ≤ 24 + 48 * ((evs.length : Int) + 1) + 2 * (((nd' B).2.2.2.2.length + 0 : Nat) + _); rw [hnB]; exact x30) (by rw [e30, e34]; exact x34) etl t2 t3
  rw [ev, ← eB] at this
  exact this
end CJC
