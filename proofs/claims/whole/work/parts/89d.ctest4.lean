/-! ===== the class: growTest, from its start ===== -/
/-- a test node has grown its branches -/
def tsN (D : xM) (t : Nat) (π : Int → Int) (w : Int) (col : Int → Int) (np ty at_ : Int) (rows : List aR) (i : Int) (n : Nat) (ws : List Int) (e : yE) (M : xM) (cs cl : Nat) (e' : yE) (M' : xM) (cs' cl' : Nat) : Prop :=
  (hpP e' M' cs' cl' ∧ yLe e e' ∧ rmC e e' cs cl cs' cl' ∧ grL M M') ∧
  (∀ j, j < e.1 → j ≠ 29 → j ≠ 30 → j ≠ 34 → j ≠ 38 → j ≠ 39 → j ≠ 40 → j ≠ 42 → j ≠ 43 → j ≠ 44 → ¬ (t ≤ j ∧ j ≤ t + 11 ∧ j ≠ t + 4) → ¬ isC e j → M' j = M j) ∧
  (∀ x, x ≠ 5 → x ≠ 11 → x ≠ 13 → x ≠ 15 → M' 29 x = M 29 x) ∧
  ((∀ x, x ≠ 1 → x ≠ 4 → M' t x = M t x) ∧ M' t 1 = M t 1 + n ∧ M t 4 ≤ M' t 4 ∧ M' t 4 ≤ M t 4 + 3 * n) ∧
  (∀ x, M' (t + 1) x = if x = 0 then M (t + 1) 0 + 1 else M (t + 1) x) ∧
  (∀ x, M' (t + 3) x = if x = i then 0 else M (t + 3) x) ∧
  (∀ x, M' (t + 5) x = if x = i then π (col at_) else M (t + 5) x) ∧
  (∀ x, x < M t 4 → M' (t + 2) x = M (t + 2) x) ∧
  (∀ x, M' (t + 6) x = if M t 1 ≤ x ∧ x < M t 1 + n then i else M (t + 6) x) ∧
  (∀ x, M' (t + 7) x = if x = i then M t 1 else M (t + 7) x) ∧
  (∀ x, M' (t + 8) x = if x = i then (n : Int) else M (t + 8) x) ∧
  (∀ x, ¬ (M t 1 ≤ x ∧ x < M t 1 + n) → M' (t + 9) x = M (t + 9) x ∧ M' (t + 10) x = M (t + 10) x ∧ M' (t + 11) x = M (t + 11) x ∧ M' 40 x = M 40 x) ∧
  (∀ x, ¬ (M t 1 * 24 ≤ x ∧ x < (M t 1 + n) * 24) → M' 39 x = M 39 x) ∧
  wtg M' (rng (M t 1) n ++ ws) ∧
  (∀ (j : Nat) k o, (brs D ty at_ rows)[j]? = some (k, o) → grn D t π w col np ty at_ rows (M t 4) M' (M t 1 + j) k o) ∧
  M' 30 0 = M 30 0 + nPS D at_ rows (brs D ty at_ rows) ∧ M' 34 0 ≤ M 34 0 + 86 * nPS D at_ rows (brs D ty at_ rows)
section CGY
variable {D E : xM} {d : Nat} {t : Nat} {π col : Int → Int} {w np b at_ i : Int}
theorem s_growTest {e : yE} {cs cl : Nat} {M : xM} {Q : yE → xM → Prop} {rows : List aR} {ws : List Int} {n : Nat} (hw : wfP D) (hwt : wfT D) (hwb : wfB D) (hpi : piO π np b) (hb : b ≤ M t 4) (hb0 : 0 ≤ b) (hN : wfN D w col np E rows) (hat : 0 ≤ at_ ∧ at_ < w) (hi : 0 ≤ i ∧ i < 120) (hnd : n = (brs D (E 88 (col at_)) at_ rows).length) (hu : ∀ r ∈ rows, ¬ (0 ≤ r.2.1 at_ ∧ D 68 (r.2.1 at_) = 4) ∧ nmU D w r)
    (hs : CSh e) (hP : hpP e M cs cl) (hC : pCl M D) (hY : tCl M D) (hT : hTr e M t) (hR : cR D M π w col rows) (hW : wtg M ws) (hwl : (ws.length : Int) ≤ M t 1) (ht0 : M t 0 = 0) (ht1 : 0 ≤ M t 1 ∧ M t 1 ≤ 120) (ht3 : rg (M t 3)) (ht4 : M t 4 ≤ 3 * M t 1) (hty : M (t + 2) (π (col at_)) = E 88 (col at_)) (h34 : M 34 0 ≤ 10000000) (hz : M t 1 + n ≤ 120 → M 34 0 + 172 * rows.length < 499500 ∧ M 30 0 + 2 * rows.length < 8000)
    (hover : ¬ (M t 1 + n ≤ 120) → ∀ M', (∀ j, j ≠ 29 → j ≠ 42 → ¬ (t ≤ j ∧ j ≤ t + 11) → M' j = M j) → (∀ x, x ≠ 11 → M' 29 x = M 29 x) → M' t 0 = 1 → Q e M')
    (h : M t 1 + n ≤ 120 → ∀ e' M' cs' cl', tsN D t π w col np (E 88 (col at_)) at_ rows i n ws e M cs cl e' M' cs' cl' → Q e' M') :
    C_Bu_growTest e (d + 6) i (π (col at_)) M Q := by
  obtain ⟨hK1, hK2, hK3⟩ := brs_ok hw hN hat (fun r hr => (hu r hr).1)
  have h99 := hT.2.2
  have hca := hN.1.2.2.1 at_ hat.1 hat.2
  have hpa := hpi.1 _ hca.1.1 hca.1.2
  have h8 := hwt.1
  have hl := hN.2.2
  have hn30 : n ≤ 25 := by
    rw [hnd]; unfold brs; rw [List.length_append, List.length_map]
    split <;> simp <;> omega
  refine c_Bu_growTest (c_Bu_growTest_0 hs ⟨t, ⟨hT.2.1, hT.1⟩, by rw [ht0]; exact ⟨by omega, by omega⟩, fun _ => ?_, fun z => absurd ht0 z⟩)
  refine s_gatherLabels (d := d + 3) (b := b) hw hs hP hC h34 hpi (by omega) hN.1 hat (fun q hq => okT_C (hN.2.1 q hq).1) hR hl (fun M2 f2 l2 => ?_)
  have k2 : ∀ j, j ≠ 29 → j ≠ 42 → M2 j = M j := f2.1
  have hT2 : hTr e M2 t := ⟨hT.1, by rw [f2.2 17 (by decide)]; exact hT.2.1, h99⟩
  have r2 : M2 (t + 2) (π (col at_)) = E 88 (col at_) := by rw [k2 (t + 2) (by omega) (by omega)]; exact hty
  refine ⟨t, ⟨hT2.2.1, hT.1⟩, by omega, ?_⟩
  rw [r2]
  -- the flag, and what follows
  have go71 : ∀ x4 : Int, (x4 = if E 88 (col at_) = 0 ∨ ((kys D at_ rows []).length : Int) < D 60 (E 88 (col at_)) then 1 else 0) → C_Bu_growTest_71 e (d + 5) i (π (col at_)) x4 n M2 Q := by
    intro x4 hx4
    refine c_Bu_growTest_71 hs ⟨t, ⟨hT2.2.1, hT.1⟩, s_become (d := d + 4) hs hT.1 hi (by omega) (by rw [k2 t (by omega) (by omega)]; exact ht3) ?_⟩
    obtain ⟨c1, c2, c3, c4, c5⟩ := bcm_fr (M := M2) (t := t) (i := i) (k := 0)
    rw [if_neg (by omega)] at c3
    have hT3 : (bcm M2 t i 0) 29 17 = (t : Int) := by rw [c1 29 (by omega) (by omega) (by omega)]; exact hT2.2.1
    refine ⟨t, ⟨hT3, hT.1⟩, hi, fun M4 e4 => ?_⟩
    have ct : bcm M2 t i 0 t = M t := by
      funext x
      by_cases z : x = 3
      · rw [z, c3, k2 t (by omega) (by omega)]
      · rw [c2 x z, k2 t (by omega) (by omega)]
    have u1 : ∀ j, j ≠ t + 1 → j ≠ t + 3 → j ≠ t + 5 → j ≠ 29 → j ≠ 42 → M4 j = M j := by
      intro j x1 x2 x3 x4 x5
      rw [e4, xrd x3]
      by_cases z : j = t
      · rw [z]; exact ct
      · rw [c1 j z x1 x2]; exact k2 j x4 x5
    have u29 : M4 29 = M2 29 := by rw [e4, xrd (by omega), c1 29 (by omega) (by omega) (by omega)]
    have u42 : M4 42 = M2 42 := by rw [e4, xrd (by omega), c1 42 (by omega) (by omega) (by omega)]
    refine ⟨t, ⟨by rw [u29]; exact hT2.2.1, hT.1⟩, ?_⟩
    have ut : M4 t = M t := u1 t (by omega) (by omega) (by omega) (by omega) (by omega)
    refine s_addBranches (d := d + 4) hs hT.1 (by omega) (by omega) (by rw [ut]; exact ht1) ?_ ?_
    · rw [ut]
      intro z
      refine ⟨⟨by omega, by omega⟩, fun y => absurd rfl y, fun _ => hover z _ (fun j y1 y2 y3 => ?_) (fun x hx => ?_) xrs⟩
      · rw [xrd (by omega)]; exact u1 j (by omega) (by omega) (by omega) y1 y2
      · rw [xrd (by omega), u29]; exact f2.2 x hx
    · rw [ut]
      intro z M6 v1 v2 v3 v4 v5 v6
      obtain ⟨hz1, hz2⟩ := hz z
      refine ⟨⟨by omega, by omega⟩, fun _ => ?_, fun y => absurd (by omega) y⟩
      have q6 : ∀ j, j ≠ t → j ≠ t + 1 → j ≠ t + 3 → j ≠ t + 5 → j ≠ t + 6 → j ≠ t + 7 → j ≠ t + 8 → j ≠ 29 → j ≠ 42 → M6 j = M j := fun j a1 a2 a3 a4 a5 a6 a7 a8 a9 => by rw [v1 j a1 a5 a6 a7]; exact u1 j a2 a3 a4 a8 a9
      have w6 : ∀ j, j < 59 → j ≠ 29 → j ≠ 42 → M6 j = M j := fun j a1 a2 a3 => q6 j (by omega) (by omega) (by omega) (by omega) (by omega) (by omega) (by omega) a2 a3
      have w29 : ∀ x, M6 29 x = M2 29 x := fun x => by rw [v1 29 (by omega) (by omega) (by omega) (by omega), u29]
      have w42 : M6 42 = M2 42 := by rw [v1 42 (by omega) (by omega) (by omega) (by omega), u42]
      have nt := nC_t hT.1
      obtain ⟨hp6, gr6, -⟩ := hpC_cg (M' := M6) hP.1 (w6 30 (by decide) (by decide) (by decide)) (w6 34 (by decide) (by decide) (by decide)) (fun j hj => q6 j (fun y => nt (by rw [← y]; exact hj)) (fun y => nC_a (a6_1 hT.1) (by decide) (by rw [← y]; exact hj)) (fun y => nC_a (a6_3 hT.1) (by decide) (by rw [← y]; exact hj)) (fun y => nC_a (a6_5 hT.1) (by decide) (by rw [← y]; exact hj)) (fun y => nC_a (a6_6 hT.1) (by decide) (by rw [← y]; exact hj)) (fun y => nC_a (a6_7 hT.1) (by decide) (by rw [← y]; exact hj)) (fun y => nC_a (a6_8 hT.1) (by decide) (by rw [← y]; exact hj)) (fun y => nC_29 hs (by rw [← y]; exact hj)) (fun y => nC_a (caa_42 hs) (by decide) (by rw [← y]; exact hj)))
      have hT6 : hTr e M6 t := ⟨hT.1, by rw [w29]; exact hT2.2.1, h99⟩
      have x4' : M6 t 4 = M t 4 := v2 4 (by decide)
      refine s_gT114 (d := d) (E := E) (fp := M t 4) (b := b) (n := n) (lo := M t 1) (ws := ws) (rows := rows) hw hwt hwb hpi hb hb0 hN hat ht1.1 hnd z hu hx4 hs ⟨hp6, hP.2⟩ (pCl_cg (w6 19 (by decide) (by decide) (by decide)) (w6 21 (by decide) (by decide) (by decide)) (w6 24 (by decide) (by decide) (by decide)) hC) (tCl_cg (w6 2 (by decide) (by decide) (by decide)) (w6 3 (by decide) (by decide) (by decide)) (w6 4 (by decide) (by decide) (by decide)) (w6 5 (by decide) (by decide) (by decide)) hY) hT6 (cR_cg gr6 (by rw [w29, f2.2 9 (by decide)]) (w6 41 (by decide) (by decide) (by decide)) hR) (lbl_cg (w29 11) w42 l2) (wtg_cg (by rw [w29, f2.2 5 (by decide)]) (w6 38 (by decide) (by decide) (by decide)) hW) (by omega) x4' (by omega) (by rw [q6 (t + 2) (by omega) (by omega) (by omega) (by omega) (by omega) (by omega) (by omega) (by omega) (by omega)]; exact hty) (by rw [w6 34 (by decide) (by decide) (by decide)]; exact hz1) (by rw [w6 30 (by decide) (by decide) (by decide)]; exact hz2) ?_
      intro e' M' M'' cs' cl' ⟨g1, g2, g3, g4, g5⟩ p1 p2 p3
      obtain ⟨b1, b2, b3, b4, b5, b6⟩ := g1.2.2.2.1
      have hs1 := hs.le g1.2.1
      obtain ⟨hp7, gr7, -⟩ := hpC_cg (M' := M'') g1.1.1 (p1 30 (by decide) (by decide)) (p1 34 (by decide) (by decide)) (fun j hj => p1 j (fun y => nC_29 hs1 (by rw [← y]; exact hj)) (fun y => nC_a (caa_38 hs1) (by decide) (by rw [← y]; exact hj)))
      have hlt : t + 12 < e.1 := by have := hT.1.2.1; omega
      have e30 : M6 30 0 = M 30 0 := by rw [w6 30 (by decide) (by decide) (by decide)]
      have e34 : M6 34 0 = M 34 0 := by rw [w6 34 (by decide) (by decide) (by decide)]
      -- cells of the tree that no branch changes
      have tr : ∀ j, t < j → j ≤ t + 12 → j ≠ t + 2 → j ≠ t + 9 → j ≠ t + 10 → j ≠ t + 11 → ¬ isC e j → M'' j = M6 j := fun j y0 y1 y2 y3 y4 y5 y6 => by
        rw [p1 j (by omega) (by omega)]
        exact b1 j (by omega) (by omega) (by omega) (by omega) (by omega) (by omega) (by omega) (by omega) (by omega) y2 y3 y4 y5 y6
      have m6 : ∀ k : Nat, (k = 2 ∨ k = 9 ∨ k = 10 ∨ k = 11) → M6 (t + k) = M (t + k) := fun k hk => q6 (t + k) (by omega) (by omega) (by omega) (by omega) (by omega) (by omega) (by omega) (by omega) (by omega)
      refine h z e' M'' cs' cl' ⟨⟨⟨hp7, g1.1.2⟩, g1.2.1, g1.2.2.1, grL_trans gr6 (grL_trans g1.2.2.2.2 gr7)⟩, fun j y0 y1 y2 y3 y4 y5 y6 y7 y8 y9 y10 y11 => ?_, fun x y1 y2 y3 y4 => ?_, ⟨fun x y1 y2 => ?_, ?_, ?_, ?_⟩, fun x => ?_, fun x => ?_, fun x => ?_, fun x hx => ?_, fun x => ?_, fun x => ?_, fun x => ?_, fun x hx => ?_, fun x hx => ?_, p3, fun j k o hj => ?_, ?_, ?_⟩
      · rw [p1 j y1 y4, b1 j y0 y1 y2 y3 y5 y6 y8 y9 (by omega) (by omega) (by omega) (by omega) (by omega) y11]
        exact q6 j (by omega) (by omega) (by omega) (by omega) (by omega) (by omega) (by omega) y1 y7
      · rw [p2 x y1, b2 x y3 y4, w29, f2.2 x y2]
      · rw [p1 t (by omega) (by omega), b3 x y2]; exact v2 x y1
      · rw [p1 t (by omega) (by omega), b3 1 (by decide)]; exact v3
      · rw [p1 t (by omega) (by omega)]; exact g5.1
      · rw [p1 t (by omega) (by omega), hnd]; exact g5.2
      · rw [tr (t + 1) (by omega) (by omega) (by omega) (by omega) (by omega) (by omega) (nC_a (a6_1 hT.1) (by decide)), v1 (t + 1) (by omega) (by omega) (by omega) (by omega), e4, xrd (by omega), c4 x, k2 (t + 1) (by omega) (by omega)]
      · rw [tr (t + 3) (by omega) (by omega) (by omega) (by omega) (by omega) (by omega) (nC_a (a6_3 hT.1) (by decide)), v1 (t + 3) (by omega) (by omega) (by omega) (by omega), e4, xrd (by omega), c5 x, k2 (t + 3) (by omega) (by omega)]
      · rw [tr (t + 5) (by omega) (by omega) (by omega) (by omega) (by omega) (by omega) (nC_a (a6_5 hT.1) (by decide)), v1 (t + 5) (by omega) (by omega) (by omega) (by omega), e4, xup_ap]
        by_cases y : x = i
        · rw [if_pos ⟨rfl, y⟩, if_pos y]
        · rw [if_neg (fun q => y q.2), if_neg y, c1 (t + 5) (by omega) (by omega) (by omega), k2 (t + 5) (by omega) (by omega)]
      · rw [p1 (t + 2) (by omega) (by omega), b4 x hx, m6 2 (by omega)]
      · rw [tr (t + 6) (by omega) (by omega) (by omega) (by omega) (by omega) (by omega) (nC_a (a6_6 hT.1) (by decide)), v4 x, u1 (t + 6) (by omega) (by omega) (by omega) (by omega) (by omega)]
      · rw [tr (t + 7) (by omega) (by omega) (by omega) (by omega) (by omega) (by omega) (nC_a (a6_7 hT.1) (by decide)), v5 x, u1 (t + 7) (by omega) (by omega) (by omega) (by omega) (by omega)]
        by_cases y : x = i
        · rw [if_pos ⟨y, by omega⟩, if_pos y]
        · rw [if_neg (fun q => y q.1), if_neg y]
      · rw [tr (t + 8) (by omega) (by omega) (by omega) (by omega) (by omega) (by omega) (nC_a (a6_8 hT.1) (by decide)), v6 x, u1 (t + 8) (by omega) (by omega) (by omega) (by omega) (by omega)]
        by_cases y : x = i
        · rw [if_pos ⟨y, by omega⟩, if_pos y]
        · rw [if_neg (fun q => y q.1), if_neg y]
      · obtain ⟨d1, d2, d3, d4⟩ := b5 x hx
        rw [p1 (t + 9) (by omega) (by omega), p1 (t + 10) (by omega) (by omega), p1 (t + 11) (by omega) (by omega), p1 40 (by decide) (by decide), d1, d2, d3, d4, m6 9 (by omega), m6 10 (by omega), m6 11 (by omega), w6 40 (by decide) (by decide) (by decide)]
        exact ⟨rfl, rfl, rfl, rfl⟩
      · rw [p1 39 (by decide) (by decide), b6 x hx, w6 39 (by decide) (by decide) (by decide)]
      · obtain ⟨f, f1, f2', f3, f4, f5, f6, f7⟩ := g2 j k o hj
        refine ⟨f, f1, by rw [p1 t (by omega) (by omega)]; exact f2', by rw [p1 (t + 9) (by omega) (by omega)]; exact f3, by rw [p1 (t + 10) (by omega) (by omega)]; exact f4, by rw [p1 (t + 11) (by omega) (by omega)]; exact f5, ⟨by rw [p1 40 (by decide) (by decide)]; exact f6.1, fun r q hq => by rw [p1 39 (by decide) (by decide)]; exact crw_gr gr7 (f6.2 r q hq)⟩, fun x x0 x1 => by rw [p1 (t + 2) (by omega) (by omega)]; exact f7 x x0 x1⟩
      · rw [p1 30 (by decide) (by decide), g3, e30]
      · rw [p1 34 (by decide) (by decide), ← e34]; exact g4
  -- the flag
  have h11 := l2.1
  have h60 := hwt.2.1 (E 88 (col at_)) hca.2.2.1 (by omega)
  have e3 : M2 3 (E 88 (col at_)) = D 60 (E 88 (col at_)) := by rw [k2 3 (by decide) (by decide)]; exact hY.2.1 _ hca.2.2.1 (by omega)
  have yes : (E 88 (col at_) = 0 ∨ ((kys D at_ rows []).length : Int) < D 60 (E 88 (col at_))) → C_Bu_growTest_51 e (d + 5) i (π (col at_)) 1 M2 Q := by
    intro c
    have hn1 : (n : Int) = (kys D at_ rows []).length + 1 := by
      rw [hnd]; unfold brs; rw [if_pos c, List.length_append, List.length_map, List.length_singleton]; omega
    refine c_Bu_growTest_51 hs ⟨⟨by omega, by omega⟩, fun z => by omega, fun _ => ?_⟩
    rw [h11, ← hn1]
    exact go71 1 (by rw [if_pos c])
  refine ⟨⟨by omega, by omega⟩, fun z => yes (Or.inl z), fun z => ⟨by omega, ?_⟩⟩
  rw [e3, h11]
  refine ⟨⟨⟨by omega, by omega⟩, ⟨by omega, by omega⟩⟩, fun y => ?_, fun y => yes (Or.inr (by omega))⟩
  have c : ¬ (E 88 (col at_) = 0 ∨ ((kys D at_ rows []).length : Int) < D 60 (E 88 (col at_))) := by omega
  have hn1 : (n : Int) = (kys D at_ rows []).length := by
    rw [hnd]; unfold brs; rw [if_neg c, List.length_append, List.length_map, List.length_nil]; omega
  refine c_Bu_growTest_51 hs ⟨⟨by omega, by omega⟩, fun _ => ?_, fun z => absurd rfl z⟩
  rw [h11, ← hn1]
  exact go71 0 (by rw [if_neg c])
end CGY
