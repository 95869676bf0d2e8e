/-! ===== the class: fits ===== -/
/-- made patterns have their parts' count -/
def pCn (M D : xM) : Prop := ∀ p, isP D p → D 68 p = 2 → M 23 p = pct D p
section CJU
variable {D : xM} {e : yE}
theorem pcv_52 {M M' : xM} (h : ∀ j, j ≠ 52 → M' j = M j) (hC : pCl M D) (hN : pCn M D) (hV : vCl M D) : pCl M' D ∧ pCn M' D ∧ vCl M' D :=
  ⟨pCl_cg (h 19 (by decide)) (h 21 (by decide)) (h 24 (by decide)) hC, by unfold pCn; rw [h 23 (by decide)]; exact hN, vCl_cg (h 11 (by decide)) (h 13 (by decide)) (h 14 (by decide)) hV⟩
theorem s_fits (hs : CSh e) (hw : wfP D) (ht : wfT D) (hv : wfVl D) (hb : wfB D) : ∀ (n d : Nat) (p v x3 : Int) (M : xM) (Q : Int → xM → Prop), 2 * n + 2 ≤ d → isP D p → D 72 p ≤ (n : Int) → vOf D p v → (0 ≤ x3 ∧ x3 + D 72 p ≤ 41) → pCl M D → pCn M D → vCl M D → (∀ M', eMt D p v 52 M M' → Q (bI (mF D p v = true)) M') → C_Ju_fits e d p v x3 M Q := by
  intro n
  induction n with
  | zero => intro d p v x3 M Q _ hp h; have := (hw.2 p hp).2.1; omega
  | succ n ih =>
    intro d p v x3 M Q hd hp hn hvo hx3 hC hN hV h
    obtain ⟨d, rfl⟩ : ∃ d', d = d' + 1 := ⟨d - 1, by omega⟩
    obtain ⟨w1, w2, w3, w4, w5, w6, w7, w8, w9⟩ := hw.2 p hp
    have h300 := hw.1.2
    have hp300 : 0 ≤ p ∧ p < 300 := ⟨hp.1, by have := hp.2; omega⟩
    have hv300 : 0 ≤ v ∧ v < 300 := ⟨hvo.1.1, by have := hvo.1.2; have := hv.1.2; omega⟩
    have hvr := (hv.2 v hvo.1.1 hvo.1.2).1
    obtain ⟨c21, c0, c1, c2, c3, c4⟩ := hC p hp
    obtain ⟨v11, v13, v14⟩ := hV v hvo.1.1 hvo.1.2
    refine c_Ju_fits (c_Ju_fits_0 hs ⟨⟨by omega, by omega⟩, fun _ => ⟨hp300, ?_⟩, fun z => absurd (by omega) z⟩)
    have hk : D 68 p = 0 ∨ D 68 p = 1 ∨ D 68 p = 2 ∨ D 68 p = 3 ∨ D 68 p = 4 := by omega
    rcases hk with z | z | z | z | z
    · have hm : mF D p v = true := mF_0 z
      rw [bI_t hm] at h
      by_cases y : D 70 p < 0
      · have k19 := c0 z
        rw [if_pos y] at k19
        rw [k19]
        refine ⟨⟨by omega, by omega⟩, fun q => absurd q (by decide), fun _ => c_Ju_fits_56 hs (h M ⟨fun _ _ => rfl, fun _ _ _ _ => rfl, fun _ a a0 a1 ha => ?_⟩), fun q => absurd q (by decide), fun q => absurd q (by decide), fun q => absurd q (by decide), fun q => absurd q (by decide), fun q => absurd q (by decide)⟩
        have := ((hb p hp a a0 a1).1 z).mp ha; omega
      · have k19 := c0 z
        rw [if_neg y] at k19
        rw [k19]
        refine ⟨⟨by omega, by omega⟩, fun q => absurd q (by decide), fun q => absurd q (by decide), fun _ => c_Ju_fits_58 hs ⟨hp300, by rw [c21]; have := w5 z; omega, fun M1 e1 => ?_⟩, fun q => absurd q (by decide), fun q => absurd q (by decide), fun q => absurd q (by decide), fun q => absurd q (by decide)⟩
        rw [c21] at e1
        refine h M1 ⟨fun j hj => by rw [e1, xrd hj], fun a a0 a1 ha => ?_, fun _ a a0 a1 ha => ?_⟩
        · rw [e1, xri (fun y => ha (((hb p hp a a0 a1).1 z).mpr y.symm))]
        · have := ((hb p hp a a0 a1).1 z).mp ha
          rw [e1, ← this, xrs, nvF_0 z rfl]
    · have hm : mF D p v = (D 65 v == D 70 p) := mF_1 z
      have hE : eMt D p v 52 M M := ⟨fun _ _ => rfl, fun _ _ _ _ => rfl, fun _ a a0 a1 ha => absurd ha ((hb p hp a a0 a1).2.1 z)⟩
      rw [c1 z]
      refine ⟨⟨by omega, by omega⟩, fun q => absurd q (by decide), fun q => absurd q (by decide), fun q => absurd q (by decide), fun q => absurd q (by decide), fun _ => c_Ju_fits_154 hs ?_, fun q => absurd q (by decide), fun q => absurd q (by decide)⟩
      rw [c21, v11]
      refine ⟨hp300, hv300, ⟨w3, hvr⟩, fun y => ?_, fun y => ?_⟩
      · have := h M hE
        rw [bI_f (by rw [hm]; simp; exact fun q => y q.symm)] at this
        exact this
      · have := h M hE
        rw [bI_t (by rw [hm]; simp; exact (Classical.not_not.mp y).symm)] at this
        exact this
    · obtain ⟨a1, a2, a3, a4⟩ := w7 z
      have hpc := pct_rg hw ht hp z
      have hm := mF_2 (v := v) hw ht hp z
      have hnb := fun a a0 a1 => (hb p hp a a0 a1).2.2.1 z
      obtain ⟨k19, k24⟩ := c2 z
      have k23 := hN p hp z
      rw [k19]
      refine ⟨⟨by omega, by omega⟩, fun q => absurd q (by decide), fun q => absurd q (by decide), fun q => absurd q (by decide), fun q => absurd q (by decide), fun q => absurd q (by decide), fun _ => c_Ju_fits_181 hs ?_, fun q => absurd q (by decide)⟩
      rw [c21, v11]
      refine ⟨hp300, hv300, ⟨w3, hvr⟩, fun y => ?_, fun y => ?_⟩
      · have hf : ¬ mF D p v = true := fun q => y (hm.mp q).1.symm
        have := h M ⟨fun _ _ => rfl, fun _ _ _ _ => rfl, fun q => absurd q hf⟩
        rw [bI_f hf] at this
        exact this
      · have hl : D 65 v = D 70 p := (Classical.not_not.mp y).symm
        have hvc : vpc D v = pct D p := by unfold vpc pct; rw [hvo.2, hl, if_neg (by omega)]
        obtain ⟨d', rfl⟩ : ∃ d', d = d' + 1 := ⟨d - 1, by omega⟩
        have key : ∀ (k x : Nat) (M1 : xM), (x : Int) + k = pct D p → (∀ j, j ≠ 52 → M1 j = M j) → (∀ a, 0 ≤ a → a < 16 → (∀ j, 0 ≤ j → j < (x : Int) → ¬ nmb D (prt D p j) a) → M1 52 a = M 52 a) → (∀ j, 0 ≤ j → j < (x : Int) → mF D (prt D p j) (D 66 (3 * v + j)) = true) → (∀ a j, 0 ≤ a → a < 16 → 0 ≤ j → j < (x : Int) → nmb D (prt D p j) a → M1 52 a = nvF D (prt D p j) (D 66 (3 * v + j)) a) → C_Ju_partsFit_14 e d' p v x3 (pct D p) x M1 (fun y2 M1 => (rg y2) ∧ ((y2 = 0 → (Q (0 : Int) M1)) ∧ (¬ (y2 = 0) → (Q (1 : Int) M1)))) := by
          intro k
          induction k with
          | zero =>
            intro x M1 hx g1 g2 g3 g4
            have hmt : mF D p v = true := hm.mpr ⟨hl, fun j j0 j1 => g3 j j0 (by omega)⟩
            refine c_Ju_partsFit_14 hs ⟨⟨⟨by omega, by omega⟩, ⟨by omega, by omega⟩⟩, fun _ => ⟨⟨by omega, by omega⟩, fun q => absurd q (by decide), fun _ => ?_⟩, fun q => absurd (by omega) q⟩
            have := h M1 ⟨g1, fun a a0 a1 ha => g2 a a0 a1 (fun j j0 j1 hj => ha ((hnb a a0 a1).1.mpr ⟨j, j0, by omega, hj⟩)), fun _ a a0 a1 ha => ?_⟩
            · rw [bI_t hmt] at this; exact this
            · obtain ⟨j, j0, j1, hj⟩ := (hnb a a0 a1).1.mp ha
              rw [g4 a j a0 a1 j0 (by omega) hj, nvF_2 hw ht hb hp z a0 a1 j0 j1 hj]
          | succ k ihk =>
            intro x M1 hx g1 g2 g3 g4
            obtain ⟨d'', rfl⟩ : ∃ d'', d' = d'' + 1 := ⟨d' - 1, by omega⟩
            obtain ⟨hC1, hN1, hV1⟩ := pcv_52 g1 hC hN hV
            refine c_Ju_partsFit_14 hs ⟨⟨⟨by omega, by omega⟩, ⟨by omega, by omega⟩⟩, fun q => absurd q (by omega), fun _ => ?_⟩
            refine c_Tm_partOf (c_Tm_partOf_0 hs (c5_18 hs) ⟨by omega, c_Tm_partOf (c_Tm_partOf_0 hs (c5_8 hs) ⟨by omega, ?_⟩)⟩)
            rw [show M1 (18 + 6) (p * 3 + x) = prt D p x by rw [g1 (18 + 6) (by decide)]; exact k24 x (by omega) (by omega), show M1 (8 + 6) (v * 3 + x) = D 66 (3 * v + x) by rw [g1 (8 + 6) (by decide)]; exact v14 x (by omega) (by omega)]
            obtain ⟨pw1, pw2⟩ := prt_w (j := x) hw ht hp z (by omega) (by omega)
            have hvp := vOf_pt (j := x) hw hv hp z hvo hl (by omega) (by omega)
            refine ih (d'' + 1) (prt D p x) (D 66 (3 * v + x)) (x3 + 1) M1 _ (by omega) pw1 (by omega) hvp (by omega) hC1 hN1 hV1 (fun M3 hM3 => ?_)
            obtain ⟨m1, m2, m3⟩ := hM3
            have m1' : ∀ j, j ≠ 52 → M3 j = M j := fun j hj => by rw [m1 j hj, g1 j hj]
            refine ⟨bI_rg, fun q => ?_, fun q => ?_⟩
            · have c : mF D (prt D p x) (D 66 (3 * v + x)) = true := Classical.not_not.mp (fun u => q (bI_0.mpr u))
              refine ihk (x + 1) M3 (by omega) m1' (fun a a0 a1 hno => ?_) (fun j j0 j1 => ?_) (fun a j a0 a1 j0 j1 hj => ?_)
              · rw [m2 a a0 a1 (hno x (by omega) (by omega))]
                exact g2 a a0 a1 (fun j j0 j1 => hno j j0 (by omega))
              · by_cases q : j = x
                · rw [q]; exact c
                · exact g3 j j0 (by omega)
              · by_cases q : j = x
                · subst q; exact m3 c a a0 a1 hj
                · rw [m2 a a0 a1 (fun hx => (hnb a a0 a1).2 j x j0 (by omega) (by omega) ⟨hj, hx⟩)]
                  exact g4 a j a0 a1 j0 (by omega) hj
            · have c := bI_0.mp (Classical.not_not.mp q)
              have hf : ¬ mF D p v = true := fun q => c ((hm.mp q).2 x (by omega) (by omega))
              refine ⟨⟨by omega, by omega⟩, fun _ => ?_, fun q => absurd rfl q⟩
              have := h M3 ⟨m1', fun a a0 a1 ha => ?_, fun q => absurd q hf⟩
              · rw [bI_f hf] at this; exact this
              · have hno : ∀ j, 0 ≤ j → j < pct D p → ¬ nmb D (prt D p j) a := fun j j0 j1 hj => ha ((hnb a a0 a1).1.mpr ⟨j, j0, j1, hj⟩)
                rw [m2 a a0 a1 (hno x (by omega) (by omega))]
                exact g2 a a0 a1 (fun j j0 j1 => hno j j0 (by omega))
        refine c_Ju_partsFit (c_Ju_partsFit_0 hs ⟨hp300, ?_⟩)
        rw [k23]
        exact key (pct D p).toNat 0 M (by omega) (fun _ _ => rfl) (fun _ _ _ _ => rfl) (fun j j0 j1 => by omega) (fun a j _ _ j0 j1 => by omega)
    · obtain ⟨a1, a2, a3, a4, a5⟩ := w8 z
      have hm := mF_3 (v := v) hw ht hp z
      obtain ⟨k19, k24⟩ := c3 z
      obtain ⟨d', rfl⟩ : ∃ d', d = d' + 1 := ⟨d - 1, by omega⟩
      rw [k19]
      refine ⟨⟨by omega, by omega⟩, fun q => absurd q (by decide), fun q => absurd q (by decide), fun q => absurd q (by decide), fun _ => c_Ju_fits_75 hs ⟨hp300, by rw [c21]; exact a1, fun M1 e1 => ?_⟩, fun q => absurd q (by decide), fun q => absurd q (by decide), fun q => absurd q (by decide)⟩
      rw [c21] at e1
      have f1 : ∀ j, j ≠ 52 → M1 j = M j := fun j hj => by rw [e1, xrd hj]
      obtain ⟨hC1, hN1, hV1⟩ := pcv_52 f1 hC hN hV
      refine c_Tm_partOf (c_Tm_partOf_0 hs (c5_18 hs) ⟨by omega, ?_⟩)
      rw [show M1 (18 + 6) (p * 3 + 0) = prt D p 0 by rw [f1 (18 + 6) (by decide)]; exact k24]
      refine ih (d' + 1) (prt D p 0) v (x3 + 1) M1 _ (by omega) a2 (by omega) ⟨hvo.1, by rw [a4]; exact hvo.2⟩ (by omega) hC1 hN1 hV1 (fun M3 hM3 => ⟨bI_01, ?_⟩)
      obtain ⟨m1, m2, m3⟩ := hM3
      rw [hm] at h
      refine h M3 ⟨fun j hj => by rw [m1 j hj, f1 j hj], fun a a0 a1' ha => ?_, fun q a a0 a1' ha => ?_⟩
      · have hn := (hb p hp a a0 a1').2.2.2.1 z
        rw [m2 a a0 a1' (fun y => ha (hn.1.mpr (Or.inr y))), e1, xri (fun y => ha (hn.1.mpr (Or.inl y.symm)))]
      · have hn := (hb p hp a a0 a1').2.2.2.1 z
        rw [nvF_3 hw ht hp z]
        rw [hm] at q
        by_cases y : D 70 p = a
        · rw [if_pos y, m2 a a0 a1' (fun w => hn.2 ⟨y, w⟩), e1, ← y, xrs]
        · rw [if_neg y]
          rcases hn.1.mp ha with w | w
          · exact absurd w y
          · exact m3 q a a0 a1' w
    · obtain ⟨a1, a2⟩ := w9 z
      have hm := mF_4 (v := v) hw ht hp z
      obtain ⟨k19, k24⟩ := c4 z
      obtain ⟨p0, p0', p0''⟩ := a1 0 (by omega) (by omega)
      obtain ⟨p1, p1', p1''⟩ := a1 1 (by omega) (by omega)
      have q0 := (hw.2 _ p0).2.1
      have q1 := (hw.2 _ p1).2.1
      obtain ⟨d', rfl⟩ : ∃ d', d = d' + 1 := ⟨d - 1, by omega⟩
      rw [k19]
      refine ⟨⟨by omega, by omega⟩, fun q => absurd q (by decide), fun q => absurd q (by decide), fun q => absurd q (by decide), fun q => absurd q (by decide), fun q => absurd q (by decide), fun q => absurd q (by decide), fun _ => c_Ju_fits_108 hs (c_Tm_partOf (c_Tm_partOf_0 hs (c5_18 hs) ⟨by omega, ?_⟩))⟩
      rw [show M (18 + 6) (p * 3 + 0) = prt D p 0 from k24 0 (by omega) (by omega)]
      refine ih (d' + 1) (prt D p 0) v (x3 + 1) M _ (by omega) p0 (by omega) ⟨hvo.1, by rw [p0'']; exact hvo.2⟩ (by omega) hC hN hV (fun M1 hM1 => ⟨bI_rg, fun y => ?_, fun y => ?_⟩)
      · have c : mF D (prt D p 0) v = true := Classical.not_not.mp (fun w => y (bI_0.mpr w))
        obtain ⟨m1, m2, m3⟩ := hM1
        have hmt : mF D p v = true := by rw [hm, c]; rfl
        have := h M1 ⟨m1, fun a a0 a1' ha => m2 a a0 a1' (fun w => ha (((hb p hp a a0 a1').2.2.2.2 z).1.mpr w)), fun _ a a0 a1' ha => ?_⟩
        · rw [bI_t hmt] at this; exact this
        · rw [nvF_4 hw ht hp z, if_pos c]
          exact m3 c a a0 a1' (((hb p hp a a0 a1').2.2.2.2 z).1.mp ha)
      · have c : ¬ mF D (prt D p 0) v = true := bI_0.mp (Classical.not_not.mp y)
        obtain ⟨m1, m2, m3⟩ := hM1
        obtain ⟨hC1, hN1, hV1⟩ := pcv_52 m1 hC hN hV
        refine c_Tm_partOf (c_Tm_partOf_0 hs (c5_18 hs) ⟨by omega, ?_⟩)
        rw [show M1 (18 + 6) (p * 3 + 1) = prt D p 1 by rw [m1 (18 + 6) (by decide)]; exact k24 1 (by omega) (by omega)]
        refine ih (d' + 1) (prt D p 1) v (x3 + 1) M1 _ (by omega) p1 (by omega) ⟨hvo.1, by rw [p1'']; exact hvo.2⟩ (by omega) hC1 hN1 hV1 (fun M2 hM2 => ?_)
        obtain ⟨k1, k2, k3⟩ := hM2
        have hmt : mF D p v = mF D (prt D p 1) v := by
          rw [hm]
          cases hx : mF D (prt D p 0) v with
          | true => exact absurd hx c
          | false => rfl
        have hgo := h M2 ⟨fun j hj => by rw [k1 j hj, m1 j hj], fun a a0 a1' ha => by rw [k2 a a0 a1' (fun w => ha (((hb p hp a a0 a1').2.2.2.2 z).2.mpr w)), m2 a a0 a1' (fun w => ha (((hb p hp a a0 a1').2.2.2.2 z).1.mpr w))], fun q a a0 a1' ha => ?_⟩
        · refine ⟨bI_rg, fun w => ?_, fun w => ?_⟩
          · rw [hmt, bI_f (bI_0.mp w)] at hgo; exact hgo
          · rw [hmt, bI_t (Classical.not_not.mp (fun u => w (bI_0.mpr u)))] at hgo; exact hgo
        · rw [nvF_4 hw ht hp z, if_neg c]
          rw [hmt] at q
          exact k3 q a a0 a1' (((hb p hp a a0 a1').2.2.2.2 z).2.mp ha)
end CJU
