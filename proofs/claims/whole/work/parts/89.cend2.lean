/-! ===== the class: endNode ===== -/
/-- a row is taken, or asked for, at a node -/
def tkN (t : Nat) (i : Int) (π : Int → Int) (k : Int) (r : aR) (M M' : xM) : Prop := (∀ j, j ≠ t → j ≠ t + 1 → j ≠ t + 3 → j ≠ t + 4 → j ≠ t + 12 → M' j = M j) ∧ (∀ x, x ≠ 2 → M' t x = M t x) ∧ M' t 2 = xor32 (M t 2) (xshl32 1 r.1) ∧ (∀ x, M' (t + 1) x = if x = k then M (t + 1) k + 1 else M (t + 1) x) ∧ (∀ x, M' (t + 3) x = if x = i then k else M (t + 3) x) ∧ (∀ x, M' (t + 4) x = if x = i then r.1 else M (t + 4) x) ∧ (∀ x, ¬ (i * 16 ≤ x ∧ x < i * 16 + 16) → M' (t + 12) x = M (t + 12) x) ∧ ∀ x, 0 ≤ x → x < 16 → M' (t + 12) (i * 16 + x) = if r.2.2 x < 0 then -1 else π (r.2.2 x)
/-- a question goes on -/
def qsN (D : xM) (t : Nat) (i b : Int) (π : Int → Int) (w : Int) (col : Int → Int) (rs : List aR) (ws : List Int) (M M' : xM) : Prop := (∀ j, j ≠ t → j ≠ t + 6 → j ≠ t + 7 → j ≠ t + 8 → j ≠ 29 → j ≠ 38 → j ≠ 39 → j ≠ 40 → M' j = M j) ∧ (∀ x, x ≠ 1 → M' t x = M t x) ∧ M' t 1 = b + 1 ∧ (∀ x, M' (t + 6) x = if x = b then i else M (t + 6) x) ∧ (∀ x, M' (t + 7) x = if x = i then b else M (t + 7) x) ∧ (∀ x, M' (t + 8) x = if x = i then 1 else M (t + 8) x) ∧ (∀ y, y ≠ 5 → M' 29 y = M 29 y) ∧ wtg M' (b :: ws) ∧ (∀ x, x ≠ b → M' 40 x = M 40 x) ∧ (∀ x, ¬ (b * 24 ≤ x ∧ x < b * 24 + 24) → M' 39 x = M 39 x) ∧ kpt D M' π w col b rs
section CE2
variable {e : yE} {d : Nat} {D : xM} {t mq : Nat} {π col : Int → Int} {i w m : Int}
theorem s_endNode {M : xM} {Q : xM → Prop} {cs cl : Nat} {rows : List aR} {ws : List Int} (hs : CSh e) (hT : hTr e M t) (hP : hpP e M cs cl) (hi : 0 ≤ i ∧ i < 120) (h34 : M 34 0 ≤ 10000000) (ht0 : M t 0 = 0) (h3 : rg (M t 3)) (ht1 : 0 ≤ M t 1 ∧ M t 1 ≤ 120) (hR : cR D M π w col rows) (hl : rows.length ≤ 24) (hr12 : ∀ r ∈ rows, 0 ≤ r.1 ∧ r.1 < 12) (hq : XSh3 mq e) (hmq : M 29 16 = (mq : Int)) (hmt : mq + 5 = t) (hg : ∀ r, 0 ≤ r → r < 12 → M (mq + 3) r = D 79 (12 * m + r) ∧ (D 79 (12 * m + r) = -1 ∨ (0 ≤ D 79 (12 * m + r) ∧ D 79 (12 * m + r) < 16))) (hw : wtg M ws) (hwl : ws.length + 1 ≤ 120)
    (hA : rows = [] → Q (bcm M t i 3))
    (hB : ∀ r rs, rows = r :: rs → D 79 (12 * m + r.1) < 0 → ∀ M', tkN t i π 2 r M M' → Q M')
    (hC0 : ∀ r rs, rows = r :: rs → ¬ D 79 (12 * m + r.1) < 0 → M t 1 = 120 → ∀ M', tkN t i π 1 r M M' → Q (xup M' t 0 1))
    (hC : ∀ r rs, rows = r :: rs → ¬ D 79 (12 * m + r.1) < 0 → M t 1 < 120 → ∀ M' M'', tkN t i π 1 r M M' → qsN D t i (M t 1) π w col rs ws M' M'' → grL M M'' → hpP e M'' cs cl → Q M'') : C_Bu_endNode e (d + 2) i M Q := by
  have h99 := hT.2.2
  have h9 := hR.1
  refine c_Bu_endNode (c_Bu_endNode_0 hs ⟨t, ⟨hT.2.1, hT.1⟩, by rw [ht0]; exact ⟨by omega, by omega⟩, fun _ => ⟨⟨by omega, by omega⟩, fun z => ?_, fun z => ?_⟩, fun z => absurd ht0 z⟩)
  · cases rows with
    | nil => exact absurd (by rw [h9]; rfl) z
    | cons r rs =>
      obtain ⟨c1, c2, -, l, c4, c5, -⟩ := hR.2 0 r rfl
      rw [show (((0 : Nat) : Int)) = 0 from rfl] at c1 c2 c4
      have hr := hr12 r (by simp)
      obtain ⟨g1, g2⟩ := hg r.1 hr.1 hr.2
      obtain ⟨q1, n1, hq1, hn1, hv1⟩ := hpS hP.1 (j := 1) (by omega)
      refine ⟨q1, n1, hq1, ⟨c1.1, by omega⟩, t, ⟨hT.2.1, hT.1⟩, hi, fun M4 e4 => ?_⟩
      rw [hv1, c2] at e4 ⊢
      have n4 : ¬ isC e (t + 4) := nC_a (a6_4 hT.1) (by decide)
      have f4 : ∀ j, j ≠ t + 4 → M4 j = M j := fun j hj => by rw [e4, xrd hj]
      refine ⟨t, ⟨by rw [f4 29 (by omega)]; exact hT.2.1, hT.1⟩, fun M6 e6 => ?_⟩
      have f6 : ∀ j, j ≠ t → j ≠ t + 4 → M6 j = M j := fun j h1 h2 => by rw [e6, xrd h1]; exact f4 j h2
      obtain ⟨hp6, gr6, hv6⟩ := hpC_cg (M' := M6) hP.1 (f6 30 (by omega) (by omega)) (f6 34 (by omega) (by omega)) (fun j hj => f6 j (fun y => nC_t hT.1 (by rw [← y]; exact hj)) (fun y => n4 (by rw [← y]; exact hj)))
      obtain ⟨q3, n3, hq3, hn3, hv3⟩ := hpS hp6 (j := 3) (by omega)
      rw [f6 30 (by omega) (by omega)] at hn3
      refine ⟨q3, n3, hq3, ⟨c1.1, by omega⟩, ?_⟩
      rw [hv3, (hv6 3 _ (by omega)).2]
      have hT6 : hTr e M6 t := ⟨hT.1, by rw [f6 29 (by omega) (by omega)]; exact hT.2.1, h99⟩
      refine s_tellNames (l := l) (nam := r.2.2) (π := π) hs hT6 ⟨hp6, hP.2⟩ hi (by rw [f6 34 (by omega) (by omega)]; exact h34) (chL_gr gr6 l _ c4) c5 ?_
      intro M8 k1 k2 k3
      have f8 : ∀ j, j ≠ t → j ≠ t + 4 → j ≠ t + 12 → M8 j = M j := fun j h1 h2 h3 => by rw [k1 j h3]; exact f6 j h1 h2
      refine ⟨mq, ⟨by rw [f8 29 (by omega) (by omega) (by omega)]; exact hmq, hq⟩, c_Ma_isGuarded (c_Ma_isGuarded_0 hs hq ⟨hr, ?_⟩)⟩
      rw [f8 (mq + 3) (by omega) (by omega) (by omega), g1]
      have f8t : ∀ x, x ≠ 2 → M8 t x = M t x := fun x hx => by rw [k1 t (by omega), e6, xri hx, f4 t (by omega)]
      have f8t2 : M8 t 2 = xor32 (M t 2) (xshl32 1 r.1) := by rw [k1 t (by omega), e6, xrs, f4 t (by omega)]
      -- what it becomes
      have bec : ∀ k, 0 ≤ k → k < 3 → tkN t i π k r M (bcm M8 t i k) := by
        intro k k0 k1'
        obtain ⟨b1, b2, b3, b4, b5⟩ := bcm_fr (M := M8) (t := t) (i := i) (k := k)
        refine ⟨fun j h1 h2 h3 h4 h5 => by rw [b1 j h1 h2 h3]; exact f8 j h1 h4 h5, fun x hx => ?_, ?_, fun x => ?_, fun x => ?_, fun x => ?_, fun x hx => ?_, fun x x0 x1 => ?_⟩
        · by_cases y : x = 3
          · rw [y, b3, if_neg (by omega)]; exact f8t 3 (by decide)
          · rw [b2 x y]; exact f8t x hx
        · rw [b2 2 (by decide)]; exact f8t2
        · rw [b4 x, f8 (t + 1) (by omega) (by omega) (by omega)]
        · rw [b5 x, f8 (t + 3) (by omega) (by omega) (by omega)]
        · rw [b1 (t + 4) (by omega) (by omega) (by omega), k1 (t + 4) (by omega), e6, xrd (by omega), e4, xup_ap]
          by_cases y : x = i
          · rw [if_pos ⟨rfl, y⟩, if_pos y]
          · rw [if_neg (fun q => y q.2), if_neg y]
        · rw [b1 (t + 12) (by omega) (by omega) (by omega), k2 x hx, f6 (t + 12) (by omega) (by omega)]
        · rw [b1 (t + 12) (by omega) (by omega) (by omega)]; exact k3 x x0 x1
      refine ⟨by rcases g2 with y | y <;> exact ⟨by omega, by omega⟩, fun y => ?_, fun y => ?_⟩
      · -- taken
        refine ⟨⟨by omega, by omega⟩, fun q => absurd rfl q, fun _ => ⟨t, ⟨by rw [f8 29 (by omega) (by omega) (by omega)]; exact hT.2.1, hT.1⟩, s_become hs hT.1 hi (by omega) (by rw [f8t 3 (by decide)]; exact h3) ?_⟩⟩
        exact hB r rs rfl (by omega) _ (bec 2 (by omega) (by omega))
      · -- a question
        have hng : ¬ D 79 (12 * m + r.1) < 0 := by omega
        refine ⟨⟨by omega, by omega⟩, fun _ => ⟨t, ⟨by rw [f8 29 (by omega) (by omega) (by omega)]; exact hT.2.1, hT.1⟩, s_become hs hT.1 hi (by omega) (by rw [f8t 3 (by decide)]; exact h3) ?_⟩, fun q => absurd (by omega) q⟩
        obtain ⟨M13, hM13⟩ : ∃ z : xM, z = bcm M8 t i 1 := ⟨_, rfl⟩
        rw [← hM13]
        have tk := bec 1 (by omega) (by omega)
        rw [← hM13] at tk
        have h29 : M13 29 = M 29 := tk.1 29 (by omega) (by omega) (by omega) (by omega) (by omega)
        have h131 : M13 t 1 = M t 1 := tk.2.1 1 (by decide)
        refine ⟨t, ⟨by rw [h29]; exact hT.2.1, hT.1⟩, ?_⟩
        have hab := s_addBranches (e := e) (d := d) (M := M13) (t := t) (i := i) (n := 1) (Q := fun y16 M15 => (rg y16) ∧ ((y16 = (-1 : Int) → (Q M15)) ∧ (¬ (y16 = (-1 : Int)) → ((0 ≤ y16 ∧ y16 < 120) ∧ (∀ M17 : xM, M17 = xup M15 40 y16 (0 : Int) → (C_Bu_endNode_142 e (d + 1) y16 (1 : Int) M17 Q)))))) hs hT.1 (by omega) (by omega) (by omega) (fun z => ⟨⟨by omega, by omega⟩, fun _ => hC0 r rs rfl hng (by rw [h131] at z; omega) M13 tk, fun q => absurd rfl q⟩) ?_
        · exact hab
        · intro hz M15 a1 a2 a3 a4 a5 a6
          rw [h131] at hz a3 a4 a5 ⊢
          have hz : M t 1 < 120 := by omega
          refine ⟨⟨by omega, by omega⟩, fun q => absurd q (by omega), fun _ => ⟨by omega, fun M17 e17 => ?_⟩⟩
          -- its rows
          have nCs : ∀ j, isC e j → j ≠ t ∧ j ≠ t + 1 ∧ j ≠ t + 3 ∧ j ≠ t + 4 ∧ j ≠ t + 12 ∧ j ≠ t + 6 ∧ j ≠ t + 7 ∧ j ≠ t + 8 ∧ j ≠ 40 := by
            intro j hj
            refine ⟨fun y => nC_t hT.1 (by rw [← y]; exact hj), fun y => nC_a (a6_1 hT.1) (by decide) (by rw [← y]; exact hj), fun y => nC_a (a6_3 hT.1) (by decide) (by rw [← y]; exact hj), fun y => nC_a (a6_4 hT.1) (by decide) (by rw [← y]; exact hj), fun y => nC_a (a6_12 hT.1) (by decide) (by rw [← y]; exact hj), fun y => nC_a (a6_6 hT.1) (by decide) (by rw [← y]; exact hj), fun y => nC_a (a6_7 hT.1) (by decide) (by rw [← y]; exact hj), fun y => nC_a (a6_8 hT.1) (by decide) (by rw [← y]; exact hj), fun y => nC_a (caa_40 hs) (by decide) (by rw [← y]; exact hj)⟩
          have f17 : ∀ j, j ≠ t → j ≠ t + 1 → j ≠ t + 3 → j ≠ t + 4 → j ≠ t + 12 → j ≠ t + 6 → j ≠ t + 7 → j ≠ t + 8 → j ≠ 40 → M17 j = M j := by
            intro j h1 h2 h3 h4 h5 h6 h7 h8 h9
            rw [e17, xrd h9, a1 j h1 h6 h7 h8]; exact tk.1 j h1 h2 h3 h4 h5
          have o17 : ∀ j, j < 59 → j ≠ 40 → M17 j = M j := fun j h1 h2 => f17 j (by omega) (by omega) (by omega) (by omega) (by omega) (by omega) (by omega) (by omega) h2
          obtain ⟨hp17, gr17, -⟩ := hpC_cg (M' := M17) hP.1 (o17 30 (by decide) (by decide)) (o17 34 (by decide) (by decide)) (fun j hj => by
            obtain ⟨y1, y2, y3, y4, y5, y6, y7, y8, y9⟩ := nCs j hj
            exact f17 j y1 y2 y3 y4 y5 y6 y7 y8 y9)
          have hR17 : cR D M17 π w col (r :: rs) := ⟨by rw [o17 29 (by decide) (by decide)]; exact h9, fun k q hk => by rw [o17 41 (by decide) (by decide)]; exact crw_gr gr17 (hR.2 k q hk)⟩
          have hT17 : hTr e M17 t := ⟨hT.1, by rw [o17 29 (by decide) (by decide)]; exact hT.2.1, h99⟩
          have loop : ∀ (todo dn : List aR) (M2 : xM), rs = dn ++ todo → hpP e M2 cs cl → grL M M2 → hTr e M2 t → cR D M2 π w col (r :: rs) → (∀ j, j ≠ 39 → j ≠ 40 → M2 j = M17 j) → (∀ x, x ≠ M t 1 → M2 40 x = M17 40 x) → (∀ x, ¬ (M t 1 * 24 ≤ x ∧ x < M t 1 * 24 + 24) → M2 39 x = M17 39 x) → kpt D M2 π w col (M t 1) dn → C_Bu_endNode_142 e (d + 1) (M t 1) ((dn.length : Int) + 1) M2 Q := by
            intro todo
            induction todo with
            | nil =>
              intro dn M2 hd hP2 gr2 hT2 hR2 b1 b2 b3 b4
              rw [List.append_nil] at hd
              subst hd
              have h92 := hR2.1
              rw [List.length_cons] at h92 hl
              have hw2 : wtg M2 ws := by
                refine ⟨by rw [b1 29 (by decide) (by decide), o17 29 (by decide) (by decide)]; exact hw.1, fun k x hk => ?_⟩
                rw [b1 38 (by decide) (by decide), o17 38 (by decide) (by decide)]; exact hw.2 k x hk
              refine c_Bu_endNode_142 hs ⟨⟨⟨by omega, by omega⟩, ⟨by omega, by omega⟩⟩, fun _ => ?_, fun q => absurd (by omega) q⟩
              have hpo := s_putOff (e := e) (d := d) (M := M2) (x := M t 1) (n := 1) (ws := ws) (Q := Q) hs hw2 (by omega) ?_
              · exact hpo
              · intro M18 d1 d2 d3
                have nC38 : ∀ j, isC e j → j ≠ 29 ∧ j ≠ 38 := fun j hj => ⟨fun y => nC_29 hs (by rw [← y]; exact hj), fun y => nC_a (caa_38 hs) (by decide) (by rw [← y]; exact hj)⟩
                obtain ⟨hp18, gr18, -⟩ := hpC_cg (M' := M18) hP2.1 (d1 30 (by decide) (by decide)) (d1 34 (by decide) (by decide)) (fun j hj => d1 j (nC38 j hj).1 (nC38 j hj).2)
                refine hC r rs rfl hng hz M13 M18 tk ⟨fun j h1 h2 h3 h4 h5 h6 h7 h8 => ?_, fun x hx => ?_, ?_, fun x => ?_, fun x => ?_, fun x => ?_, fun y hy => ?_, d3, fun x hx => ?_, fun x hx => ?_, ?_⟩ (grL_trans gr2 gr18) ⟨hp18, hP.2⟩
                · rw [d1 j h5 h6, b1 j h7 h8, e17, xrd h8]; exact a1 j h1 h2 h3 h4
                · rw [d1 t (by omega) (by omega), b1 t (by omega) (by omega), e17, xrd (by omega)]; exact a2 x hx
                · rw [d1 t (by omega) (by omega), b1 t (by omega) (by omega), e17, xrd (by omega), a3]; rfl
                · rw [d1 (t + 6) (by omega) (by omega), b1 (t + 6) (by omega) (by omega), e17, xrd (by omega), a4 x]
                  by_cases y : x = M t 1
                  · rw [if_pos y, if_pos (by omega)]
                  · rw [if_neg y, if_neg (by omega)]
                · rw [d1 (t + 7) (by omega) (by omega), b1 (t + 7) (by omega) (by omega), e17, xrd (by omega), a5 x]
                  by_cases y : x = i
                  · rw [if_pos y, if_pos ⟨y, by omega⟩]
                  · rw [if_neg y, if_neg (fun q => y q.1)]
                · rw [d1 (t + 8) (by omega) (by omega), b1 (t + 8) (by omega) (by omega), e17, xrd (by omega), a6 x]
                  by_cases y : x = i
                  · rw [if_pos y, if_pos ⟨y, by omega⟩]; rfl
                  · rw [if_neg y, if_neg (fun q => y q.1)]
                · rw [d2 y hy, b1 29 (by decide) (by decide), o17 29 (by decide) (by decide), h29]
                · rw [d1 40 (by decide) (by decide), b2 x hx, e17, xri hx, a1 40 (by omega) (by omega) (by omega) (by omega)]
                · rw [d1 39 (by decide) (by decide), b3 x hx, e17, xrd (by decide), a1 39 (by omega) (by omega) (by omega) (by omega)]
                · refine ⟨by rw [d1 40 (by decide) (by decide)]; exact b4.1, fun k q hk => ?_⟩
                  rw [d1 39 (by decide) (by decide)]
                  exact crw_gr gr18 (b4.2 k q hk)
            | cons q todo ih =>
              intro dn M2 hd hP2 gr2 hT2 hR2 b1 b2 b3 b4
              have h92 := hR2.1
              rw [List.length_cons] at h92 hl
              have hlen : rs.length = dn.length + todo.length + 1 := by rw [hd, List.length_append, List.length_cons]; omega
              have hgr : (r :: rs)[dn.length + 1]? = some q := by rw [List.getElem?_cons_succ, hd, List.getElem?_append_right (Nat.le_refl _), Nat.sub_self]; rfl
              have hcq := hR2.2 _ q hgr
              rw [show ((dn.length + 1 : Nat) : Int) = (dn.length : Int) + 1 by omega] at hcq
              refine c_Bu_endNode_142 hs ⟨⟨⟨by omega, by omega⟩, ⟨by omega, by omega⟩⟩, fun y => absurd y (by omega), fun _ => ⟨by omega, ?_⟩⟩
              refine s_keepG (t := t) (i := M t 1) (fp := 0) (cs := cs) (cl := cl) hs hT2 hP2 (by omega) b4 (by omega) hcq ?_
              intro M3 s1 s2 s3
              have e2 : (((dn ++ [q]).length : Nat) : Int) + 1 = (dn.length : Int) + 1 + 1 := by rw [List.length_append, List.length_singleton]; omega
              have := ih (dn ++ [q]) M3 (by rw [hd]; simp) s1.1 (grL_trans gr2 s1.2.2.2.2) ⟨hT.1, by rw [s3 29 (by decide) (by decide)]; exact hT2.2.1, h99⟩ (cR_G hs hT2 s1 hR2) (fun j h1 h2 => by rw [s3 j h1 h2]; exact b1 j h1 h2) (fun x hx => by rw [(s1.2.2.2.1.2.2.2.2.1 x hx).2.2.2]; exact b2 x hx) (fun x hx => by rw [s1.2.2.2.1.2.2.2.2.2 x hx]; exact b3 x hx) s2
              rw [e2] at this
              exact this
          have := loop rs [] M17 rfl ⟨hp17, hP.2⟩ gr17 hT17 hR17 (fun _ _ _ => rfl) (fun _ _ => rfl) (fun _ _ => rfl) ⟨by rw [e17, xrs]; rfl, fun k q hk => by simp at hk⟩
          exact this
  · have hr0 : rows = [] := by
      cases rows with
      | nil => rfl
      | cons r rs => rw [List.length_cons] at h9; exact absurd (by omega) z
    exact ⟨t, ⟨hT.2.1, hT.1⟩, s_become hs hT.1 hi (by omega) h3 (hA hr0)⟩
end CE2
