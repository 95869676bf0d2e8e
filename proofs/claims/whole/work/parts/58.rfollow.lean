/-! ===== the reference follows values through a tree ===== -/
/-- the values are in order -/
def wfVl (D : xM) : Prop := (0 ≤ D 59 10 ∧ D 59 10 ≤ 300) ∧ ∀ v, 0 ≤ v → v < D 59 10 → rg (D 65 v) ∧ (0 ≤ D 64 v ∧ D 64 v < D 59 1) ∧ (0 < D 64 v → (0 ≤ D 65 v ∧ D 65 v < D 60 (D 64 v)) ∧ ∀ j, 0 ≤ j → j < D 61 (6 * D 64 v + D 65 v) → (0 ≤ D 66 (3 * v + j) ∧ D 66 (3 * v + j) < v) ∧ D 64 (D 66 (3 * v + j)) = D 62 (3 * (6 * D 64 v + D 65 v) + j))
/-- the places' values are of their types -/
def valOK (D : xM) (np : Int) (E : xM) (va : Int → Int) : Prop := ∀ q, 0 ≤ q → q < np → (0 ≤ va q ∧ va q < D 59 10) ∧ D 64 (va q) = E 88 q
def fOK (D : xM) : Prop := wfP D ∧ wfT D ∧ wfVl D ∧ wfB D ∧ (0 ≤ D 59 43 ∧ D 59 43 < 20) ∧ ∀ i, 0 ≤ i → i < 240 → rg (D 79 i)
def FolOK (e : yE) (D : xM) (n : Nat) : Prop := ∀ (d : Nat) (s cb lst lh w : Int) (col : Int → Int) (np : Int) (E : xM) (rows : List aR) (M : xM) (Q : xM → Prop) (va : Int → Int) (k : Nat) (rest : List aN),
  3 * n + 430 ≤ d → n ≤ k → stt D M → ndR M s w cb rows → (∀ k, 0 ≤ k → k < w → M 87 (lst + k) = col k) → M 59 42 = np → M 59 35 = lh → plc M np E → bnd (120 - n) s w cb lst lh np → wfN D w col np E rows → (∀ r ∈ rows, gdI D (D 59 43) w r) → (∀ q, 0 ≤ q → q < np → M 93 q = va q) → valOK D np E va → M 59 45 = 0 → (0 ≤ M 59 46 ∧ M 59 46 ≤ 120 - n) → fin_ D (D 59 43) n ((w, col, np, E, rows) :: rest) ≠ none →
  (∀ M', frN s cb lh np E M M' → M' 59 31 = s → M' 59 33 = cb → M' 59 35 = lh → M' 59 42 = np → M' 59 45 = 0 → M' 94 0 = M 94 0 + (wk D (D 59 43) k (w, col, np, E, rows) va).1 → M' 94 1 = M 94 1 + (wk D (D 59 43) k (w, col, np, E, rows) va).2.1 → Q M') → R_node e d s lst w M Q
section RFL
variable {e : yE} {D E : xM} {s w cb lst lh np : Int} {col : Int → Int}
theorem valOK_N (hv : wfVl D) (ht : wfT D) {va : Int → Int} {q m key : Int} (hm : m = bMn D (E 88 q) key false) (h : valOK D np E va) (hq : 0 ≤ q ∧ q < np) (hk : D 65 (va q) = key) : valOK D (np + m) (bEn D E q np m key false) (vaN D va np q) := by
  intro x x0 x1
  obtain ⟨h1, h2⟩ := h q hq.1 hq.2
  obtain ⟨v1, v2, v3⟩ := hv.2 _ h1.1 h1.2
  by_cases hx : x < np
  · have b88 : bEn D E q np m key false 88 x = E 88 x := by
      unfold bEn; rw [if_neg (by omega), if_neg (by omega), if_neg (by omega), if_neg (by omega), if_neg (by omega), if_neg (by omega)]
    unfold vaN
    rw [b88, if_neg (by omega)]
    exact h x x0 hx
  · have b88 : bEn D E q np m key false 88 x = D 62 (3 * (6 * E 88 q + key) + (x - np)) := by unfold bEn; rw [if_pos ⟨rfl, by omega, by omega⟩]
    unfold vaN
    rw [b88, if_pos (by omega)]
    have h5 : x - np < m := by omega
    rw [hm] at h5
    unfold bMn at h5
    by_cases hz : false = true ∨ E 88 q = 0
    · rw [if_pos hz] at h5; omega
    · rw [if_neg hz] at h5
      have hz2 : E 88 q ≠ 0 := fun z => hz (Or.inr z)
      rw [h2, hk] at v3
      obtain ⟨v4, v5⟩ := v3 (by omega)
      obtain ⟨v6, v7⟩ := v5 (x - np) (by omega) h5
      exact ⟨by omega, v7⟩
theorem s_leafF {n d k : Nat} {M : xM} {Q : xM → Prop} {rows : List aR} {r : aR} {rs : List aR} {va : Int → Int} {rest : List aN} (hs : RSh e) (hg : fOK D) (h44 : D 59 44 = 1) (IH : ∀ k, k < n + 1 → FolOK e D k) (hd : 3 * (n + 1) + 429 ≤ d) (hk : n ≤ k) (hst : stt D M) (hn : ndR M s w cb (r :: rs)) (h87 : ∀ k, 0 ≤ k → k < w → M 87 (lst + k) = col k) (h42 : M 59 42 = np) (h35 : M 59 35 = lh) (hp : plc M np E) (hb : bnd (120 - (n + 1 : Nat)) s w cb lst lh np) (hwf : wfN D w col np E (r :: rs)) (hgd : ∀ q ∈ r :: rs, gdI D (D 59 43) w q) (hA : fA w (r :: rs) = -1) (h93 : ∀ q, 0 ≤ q → q < np → M 93 q = va q) (hval : valOK D np E va) (h45 : M 59 45 = 0) (h46 : 0 ≤ M 59 46 ∧ M 59 46 ≤ 120 - (n + 1 : Nat)) (hshp : shp D w col rows = some (r :: rs, -1)) (hch : ∀ c ∈ chd D (D 59 43) w col np E (r :: rs) (-1), ∃ k rest', k ≤ n ∧ fin_ D (D 59 43) k (c :: rest') ≠ none)
    (h : ∀ M', frN s cb lh np E M M' → M' 59 35 = lh → M' 59 42 = np → M' 59 45 = 0 → M' 94 0 = M 94 0 + (wk D (D 59 43) (k + 1) (w, col, np, E, rows) va).1 → M' 94 1 = M 94 1 + (wk D (D 59 43) (k + 1) (w, col, np, E, rows) va).2.1 → Q M') : R_leaf e d s lst w M Q := by
  have hb' := hb
  obtain ⟨b1, b2, b3, b4, b5, b6⟩ := hb'
  obtain ⟨d1, rfl⟩ : ∃ d1, d = d1 + 2 := ⟨d - 2, by omega⟩
  have hg' := hg
  obtain ⟨gp, gt, gv, gb, g43, g79⟩ := hg'
  have hr := hwf.2.1 r (by simp)
  have hr12 := hr.2.1
  have hlen := hwf.2.2
  rw [List.length_cons] at hlen
  have hI := hn.2.2.2 0 r rfl
  rw [show s + ((0 : Nat) : Int) = s by omega] at hI
  have e43 : M 59 43 = D 59 43 := hst 59 43 (by omega)
  have e83 : M 83 s = r.1 := hI.1
  have e79 : M 79 = D 79 := stt_c hst 79 (by omega)
  have hrg := g79 (12 * D 59 43 + r.1) (by omega) (by omega)
  rw [wk_leaf hshp] at h
  obtain ⟨x, hx⟩ : ∃ x, x = D 79 (12 * D 59 43 + r.1) := ⟨_, rfl⟩
  obtain ⟨y, hy⟩ : ∃ y, y = D 80 (12 * D 59 43 + r.1) := ⟨_, rfl⟩
  have hgr := hgd r (by simp)
  unfold gdI at hgr
  rw [← hx] at hrg h hgr
  rw [← hy] at h hgr
  -- its names have places
  have hall : ∀ j, 0 ≤ j → j < w → r.2.1 j < 0 := by
    rcases fOp_is (f := r.2.1) w.toNat 0 with ⟨-, z⟩ | ⟨z, -, -, -⟩
    · intro j j0 j1; exact z j j0 (by omega)
    · have hA : fOp r.2.1 w.toNat 0 = -1 := hA
      omega
  have hnam : 0 ≤ x → ∀ a, (a = x ∨ a = y) → (0 ≤ a ∧ a < 16) ∧ (0 ≤ r.2.2 a ∧ r.2.2 a < np) := by
    intro hx0 a ha
    obtain ⟨c1, c2⟩ := hgr hx0 a ha
    refine ⟨c1, ?_⟩
    rcases c2 with c2 | ⟨j, hj, hj2, -⟩
    · rcases hr.2.2 a c1.1 c1.2 with z | z
      · omega
      · exact z
    · have := hall j hj.1 hj.2; omega
  have main : ∀ kk, (kk = 1 ∧ 0 ≤ x ∨ kk = 2 ∧ x < 0) → R_leaf_53 e (d1 + 1) s lst w r.1 x kk (xup M 94 4 (xor32 (M 94 4) (xshl32 1 r.1))) Q := by
    intro kk hkk
    obtain ⟨M1, hM1⟩ : ∃ z : xM, z = xup M 94 4 (xor32 (M 94 4) (xshl32 1 r.1)) := ⟨_, rfl⟩
    rw [← hM1]
    have f45 : M1 59 45 = 0 := by rw [hM1, xrd (by decide)]; exact h45
    have f46 : M1 59 46 = M 59 46 := by rw [hM1, xrd (by decide)]
    have fr1 : frN s cb lh np E M M1 := by rw [hM1]; exact frN_up (fun _ _ _ => rfl) nk_94
    refine t_leaf_53 hs (s_countNode hs (Or.inl f45) (by omega) (by omega) (fun _ _ => ?_) (fun c => by omega))
    obtain ⟨M2, hM2⟩ : ∃ z : xM, z = xup (xup (xup M1 59 45 0) 59 46 (M1 59 46 + 1)) 94 kk (M1 94 kk + 1) := ⟨_, rfl⟩
    rw [← hM2]
    have fr2 : frN s cb lh np E M M2 := by rw [hM2]; exact frN_trans fr1 fr_cnt
    have o2 : ∀ i, i ≠ 45 → i ≠ 46 → M2 59 i = M 59 i := by
      intro i h1 h2
      rw [hM2, xrd (by decide), xri h2, xri h1, hM1, xrd (by decide)]
    have c2 : ∀ c, c ≠ 59 → c ≠ 94 → M2 c = M c := by
      intro c h1 h2
      rw [hM2, xrd h2, xrd h1, xrd h1, hM1, xrd h2]
    have f45' : M2 59 45 = 0 := by rw [hM2, xrd (by decide), xri (by decide), xrs]
    have f46' : M2 59 46 = M 59 46 + 1 := by rw [hM2, xrd (by decide), xrs, f46]
    have s0 : M2 94 0 = M 94 0 := by rw [hM2, xri (by omega), xrd (by decide), xrd (by decide), hM1, xri (by omega)]
    have s1 : M2 94 1 = M 94 1 + (if kk = 1 then 1 else 0) := by
      rw [hM2]
      by_cases z : kk = 1
      · rw [if_pos z, z, xrs, hM1, xri (by omega)]
      · rw [if_neg z, xri (by omega), xrd (by decide), xrd (by decide), hM1, xri (by omega)]; omega
    have e44 : M2 59 44 = 1 := by rw [o2 44 (by omega) (by omega), hst 59 44 (by omega)]; exact h44
    have e43' : M2 59 43 = D 59 43 := by rw [o2 43 (by omega) (by omega)]; exact e43
    have e80 : M2 80 = D 80 := by rw [c2 80 (by decide) (by decide)]; exact stt_c hst 80 (by omega)
    have e65 : M2 65 = D 65 := by rw [c2 65 (by decide) (by decide)]; exact stt_c hst 65 (by omega)
    refine ⟨⟨by omega, by omega⟩, fun z => absurd z (by omega), fun _ => ⟨hrg, fun cx => ?_, fun cx => ?_⟩⟩
    · obtain ⟨x1, x2⟩ := hnam cx x (Or.inl rfl)
      obtain ⟨y1, y2⟩ := hnam cx y (Or.inr rfl)
      have ex : M2 85 (16 * s + x) = r.2.2 x := by rw [c2 85 (by decide) (by decide)]; exact hI.2.2 x x1.1 x1.2
      have ey : M2 85 (16 * s + y) = r.2.2 y := by rw [c2 85 (by decide) (by decide)]; exact hI.2.2 y y1.1 y1.2
      have vx : M2 93 (r.2.2 x) = va (r.2.2 x) := by rw [c2 93 (by decide) (by decide)]; exact h93 _ x2.1 x2.2
      have vy : M2 93 (r.2.2 y) = va (r.2.2 y) := by rw [c2 93 (by decide) (by decide)]; exact h93 _ y2.1 y2.2
      obtain ⟨wx, -⟩ := hval _ x2.1 x2.2
      obtain ⟨wy, -⟩ := hval _ y2.1 y2.2
      have g300 := gv.1
      have rx := (gv.2 _ wx.1 wx.2).1
      have ry := (gv.2 _ wy.1 wy.2).1
      have hkk1 : kk = 1 := by omega
      rw [if_pos hkk1] at s1
      rw [e44, e43', e80, ← hy, ex, ey, vx, vy, e65]
      refine ⟨⟨by omega, by omega⟩, fun z => absurd z (by omega), fun _ => ⟨by omega, by omega, by omega, by omega, by omega, by omega, by omega, ⟨rx, ry⟩, fun c => ?_, fun c => ?_⟩⟩
      · -- it goes on
        rw [if_neg (by omega), if_neg (by omega)] at h
        have h31 := hn.1
        rw [List.length_cons] at h31
        have ec : chd D (D 59 43) w col np E (r :: rs) (-1) = [(w, col, np, E, rs)] := by
          unfold chd
          rw [if_pos (by omega)]
          show (if D 79 (12 * D 59 43 + r.1) < 0 then _ else _) = _
          rw [← hx, if_neg (by omega)]
        obtain ⟨k', rest', hk', hfin⟩ := hch (w, col, np, E, rs) (by rw [ec]; simp)
        refine t_leaf_141 hs ?_
        rw [o2 31 (by omega) (by omega)]
        have hm1 := mul_0 (i := (r :: rs).length) (w := w) b3.1
        have hm2 := mul_le (i := (r :: rs).length) (j := 24) (w := w) (by rw [List.length_cons]; omega) b3.1
        have hm3 : ((24 : Nat) : Int) * w = 24 * w := rfl
        have hrowM : ∀ (i : Nat) q, (r :: rs)[i]? = some q → rwI M2 (s + i) w q ∧ 0 ≤ M2 84 (s + i) ∧ M2 84 (s + i) + w ≤ cb + ((r :: rs).length : Int) * w := by
          intro i q hq
          have hi : i < (r :: rs).length := by
            rcases Nat.lt_or_ge i (r :: rs).length with h | h
            · exact h
            · rw [List.getElem?_eq_none h] at hq; cases hq
          obtain ⟨u1, u2, u3⟩ := hn.2.2.2 i q hq
          have u4 := hn.2.2.1 i hi
          have hm4 := mul_st (i := i) (j := (r :: rs).length) (w := w) hi b3.1
          have hm5 := mul_0 (i := i) (w := w) b3.1
          rw [c2 84 (by decide) (by decide)]
          refine ⟨⟨by rw [c2 83 (by decide) (by decide)]; exact u1, fun k h0 h1 => by rw [c2 84 (by decide) (by decide), c2 86 (by decide) (by decide)]; exact u2 k h0 h1, fun a h0 h1 => by rw [c2 85 (by decide) (by decide)]; exact u3 a h0 h1⟩, by omega, by omega⟩
        have hen : M 59 31 = s + 1 + (rs.length : Int) := by rw [h31]; omega
        have h152 := s_lf152 (e := e) (D := D) (d := d1) (Mx := M2) (Q := Q) (lst := lst) (s := s) (w := w) (r := r) (rs := rs) (en := M 59 31) (cb' := cb + ((r :: rs).length : Int) * w) hs gp (by omega) b2.1 hen (by omega) (by omega) (by omega) hrowM (fun q hq => okT_C (hwf.2.1 q (List.mem_cons_of_mem _ hq)).1) ?_ rs [] M2 rfl ?_ frS_refl
        · rw [show s + 1 + (([] : List aR).length : Int) = s + 1 by simp] at h152
          exact h152
        · intro M3 hn3 hfr3
          have hen2 : M 59 31 = s + ((r :: rs).length : Int) := by rw [List.length_cons]; exact h31
          have fr3 : frN s cb lh np E M M3 := by
            intro c i k
            rw [hfr3 c i (kpN_S (kpN_mono (E' := E) k (by omega) (by omega) (Int.le_refl _) (Int.le_refl _) (fun z _ => z)))]
            exact fr2 c i k
          have st3 : stt D M3 := frN_stt fr3 hst
          have hbl := bnd_leaf (N' := 120 - k') (rows := (r :: rs).length) hb (by omega) (by omega) (by rw [List.length_cons]; omega)
          rw [← hen2] at hbl
          have p3 : plc M3 np E := by
            intro q q0 q1
            rw [frS_c hfr3 88 (by omega), frS_c hfr3 89 (by omega), frS_c hfr3 90 (by omega), frS_c hfr3 91 (by omega), frS_c hfr3 92 (by omega), c2 88 (by decide) (by decide), c2 89 (by decide) (by decide), c2 90 (by decide) (by decide), c2 91 (by decide) (by decide), c2 92 (by decide) (by decide)]
            exact hp q q0 q1
          have g0 : M3 94 0 = M2 94 0 := by rw [frS_c hfr3 94 (by omega)]
          have g1 : M3 94 1 = M2 94 1 := by rw [frS_c hfr3 94 (by omega)]
          refine IH k' (by omega) (d1 + 1) (M 59 31) (cb + ((r :: rs).length : Int) * w) lst lh w col np E rs M3 Q va k rest' (by omega) (by omega) st3 hn3 (fun j h0 h1 => by rw [frS_c hfr3 87 (by omega), c2 87 (by decide) (by decide)]; exact h87 j h0 h1) (by rw [frS_o hfr3 42 (by omega), o2 42 (by omega) (by omega)]; exact h42) (by rw [frS_o hfr3 35 (by omega), o2 35 (by omega) (by omega)]; exact h35) p3 hbl ⟨hwf.1, fun q hq => hwf.2.1 q (List.mem_cons_of_mem _ hq), by omega⟩ (fun q hq => hgd q (List.mem_cons_of_mem _ hq)) (fun q q0 q1 => by rw [frS_c hfr3 93 (by omega), c2 93 (by decide) (by decide)]; exact h93 q q0 q1) hval (by rw [frS_o hfr3 45 (by omega)]; exact f45') (by rw [frS_o hfr3 46 (by omega), f46']; omega) hfin ?_
          intro M4 fr4 a31 a33 a35 a42 a45 t0 t1
          refine h M4 ?_ a35 a42 a45 (by rw [t0, g0, s0]) (by rw [t1, g1, s1]; show M 94 1 + 1 + (wk D (D 59 43) k (w, col, np, E, rs) va).2.1 = M 94 1 + ((wk D (D 59 43) k (w, col, np, E, rs) va).2.1 + 1); omega)
          intro c i k
          rw [fr4 c i (kpN_mono (E' := E) k (by omega) (by omega) (Int.le_refl _) (Int.le_refl _) (fun z _ => z))]
          exact fr3 c i k
        · refine ⟨?_, ?_, fun i hi => by simp at hi, fun i q hq => by simp at hq⟩
          · rw [o2 31 (by omega) (by omega)]; simp
          · rw [o2 33 (by omega) (by omega), hn.2.1]; simp
      · -- the guard holds
        rw [if_neg (by omega), if_pos (by omega)] at h
        exact h M2 fr2 (by rw [o2 35 (by omega) (by omega)]; exact h35) (by rw [o2 42 (by omega) (by omega)]; exact h42) f45' (by rw [s0]; show M 94 0 = M 94 0 + 0; omega) s1
    · -- taken
      rw [if_pos (by omega)] at h
      have hkk2 : ¬ kk = 1 := by omega
      rw [if_neg hkk2] at s1
      exact h M2 fr2 (by rw [o2 35 (by omega) (by omega)]; exact h35) (by rw [o2 42 (by omega) (by omega)]; exact h42) f45' (by rw [s0]; show M 94 0 = M 94 0 + 0; omega) s1
  refine t_leaf (t_leaf_0 hs ?_)
  rw [e43, e83, e79, ← hx]
  refine ⟨by omega, by omega, fun M1 e1 => ?_⟩
  rw [e1]
  exact ⟨hrg, fun c => main 1 (Or.inl ⟨rfl, c⟩), fun c => main 2 (Or.inr ⟨rfl, by omega⟩)⟩
end RFL
