/-! ===== the class: a node's rows into normal form ===== -/
section CLR
variable {D E : xM} {d : Nat} {t : Nat} {π col : Int → Int} {w np b : Int}
theorem lpS_t0 {e : yE} {M : xM} {cs cl : Nat} (h99 : 99 < t) (ht : XSh6 t e) (hP : hpP e M cs cl) : lpS t e M cs cl e (xup M t 0 1) cs cl ∧ grL M (xup M t 0 1) := by
  obtain ⟨a4, b4, -⟩ := hpC_up (k := t) (i := 0) (v := 1) hP.1 (nC_t ht) (by omega) (by omega)
  refine ⟨lpS_of hP ⟨a4, hP.2⟩ (fun j _ _ x6 => xrd (fun z => x6 (by omega))) (fun x _ _ _ _ _ => ?_), b4⟩
  rw [xrd (show (29 : Nat) ≠ t by omega)]
theorem s_norm {e : yE} {cs cl : Nat} {M : xM} {rows : List aR} {R : Int → yE → xM → Prop} (hw : wfP D) (hwb : wfB D) (hpi : piO π np b) (hb : b ≤ 1000) (hN : wfN D w col np E rows) (hU : ∀ r ∈ rows, nmU D w r) (hs : CSh e) (hP : hpP e M cs cl) (hC : pCl M D) (hT : hTr e M t) (ht : M t 0 = 0) (hR : cR D M π w col rows) (hz : M 34 0 + 172 * (25 - rows.length) < 499000) (hz3 : M 30 0 + 2 * (25 - rows.length) < 7900)
    (hover : shp D w col rows = none → ∀ e' M' cs' cl' y, (0 ≤ y ∧ y < 1000) → lpS t e M cs cl e' M' cs' cl' → M' t 0 = 1 → M' 29 5 = M 29 5 → R y e' M')
    (h : ∀ rows' at_, shp D w col rows = some (rows', at_) → (0 ≤ at_ → ∀ ty, 1 ≤ (brs D ty at_ rows').length) → ∀ e' M' cs' cl', std e M cs cl e' M' cs' cl' → cR D M' π w col rows' → M' 30 0 + 2 * rows.length = M 30 0 + 2 * rows'.length → R (if at_ < 0 then -1 else π (col at_)) e' M') :
    C_Bu_splitFirst e (d + 6) M (fun e5 M4 => yLe e e5 ∧ (C_Bu_placeThatCounts e5 (d + 6) M4 (fun y7 M6 => C_Bu_splitAll e5 (d + 6) y7 M6 (fun e9 M8 => yLe e5 e9 ∧ R y7 e9 M8)))) := by
  have hc := hN.1
  have h99 := hT.2.2
  have hoQ : ∀ q ∈ rows, okQ D w col E q := fun q hq => ⟨(hN.2.1 q hq).1, hU q hq⟩
  refine s_splitFirst hw hwb hpi hb hc hs hP hC hT ht hR hN.2.2 hoQ hz hz3 (fun hn e1 M1 cs1 cl1 rows1 g1 g2 g3 => ?_) (fun rows1 hn e1 M1 cs1 cl1 g1 g2 g3 => ?_)
  · have hs1 := hs.le g1.2.1
    obtain ⟨hT1, ht1⟩ := hTr_D hT hs g1
    obtain ⟨l1, gr1⟩ := lpS_t0 h99 hT1.1 g1.1
    have hlp := lpS_trans (lpS_std (t := t) g1) l1
    obtain ⟨M2, e2⟩ : ∃ M2, M2 = xup M1 t 0 1 := ⟨_, rfl⟩
    rw [← e2] at l1 gr1 hlp ⊢
    have h29 : M2 29 = M1 29 := by rw [e2, xrd (show (29 : Nat) ≠ t by omega)]
    have h41 : M2 41 = M1 41 := by rw [e2, xrd (show (41 : Nat) ≠ t by omega)]
    have h34 : M2 34 = M1 34 := by rw [e2, xrd (show (34 : Nat) ≠ t by omega)]
    have hR2 := cR_cg gr1 (by rw [h29]) h41 g2
    have hC1 := pCl_fD hs hC g1.2.2.2.1
    have hC2 : pCl M2 D := pCl_cg (by rw [e2, xrd (by omega)]) (by rw [e2, xrd (by omega)]) (by rw [e2, xrd (by omega)]) hC1
    have ht2 : M2 t 0 = 1 := by rw [e2, xrs]
    have hcap := hp_rg l1.1.1
    have hsz : M2 34 0 ≤ 10000000 := by have := pw_le l1.1.2.2; omega
    obtain ⟨a, ha⟩ : ∃ a, a = fA w rows1 := ⟨_, rfl⟩
    have haw : 0 ≤ a ∧ a < w := by
      have := g3.2.1
      rcases fA_is (w := w) (rows := rows1) hc.1 with z | z
      · omega
      · rw [ha]; exact z
    have hca := hc.2.2.1 a haw.1 haw.2
    have hpa := hpi.1 _ hca.1.1 hca.1.2
    have hpc : pcl π col w rows1 = π (col a) := by unfold pcl; rw [← ha, if_neg (by omega)]
    refine ⟨g1.2.1, s_placeC (d := d + 5) hs1 l1.1 g3.1 hsz hR2 ?_⟩
    rw [hpc]
    refine c_Bu_splitAll (c_Bu_splitAll_0 hs1 (s_passC (d := d + 3) (t := t) (at_ := a) hw hs1 l1.1 hC2 hpi hb hc (lpS_tr hlp hT) hR2 g3.1 (fun q hq => okT_C (g3.2.2 q hq).1) hsz (Or.inr ⟨ht2, haw, rfl⟩) ⟨yLe.rf, ?_⟩ rows1.length 0 (by omega)))
    refine hover ?_ e1 M2 cs1 cl1 (π (col a)) (by omega) hlp ht2 (by rw [h29]; exact g1.2.2.2.1.2 5 (by decide) (by decide) (by decide))
    unfold shp; rw [hn]
  · have hs1 := hs.le g1.2.1
    obtain ⟨hT1, ht1⟩ := hTr_D hT hs g1
    have hC1 := pCl_fD hs hC g1.2.2.2.1
    obtain ⟨a1, a2, a3, a4⟩ := nF_ok (P := okQ D w col E) hc.1 (fun r a j h0 h1 h2 h3 h4 h5 h6 => okQ_spl hw hwb hc h0 h1 h2 h3 h4 h5 h6) 25 rows rows1 hn hoQ hN.2.2
    have hg := g1.2.2.2.2.2
    have hl := hN.2.2
    have hsz : M1 34 0 ≤ 10000000 := by omega
    refine ⟨g1.2.1, s_placeC (d := d + 5) hs1 g1.1 a2 hsz g2 ?_⟩
    cases rows1 with
    | nil =>
      have hpc : pcl π col w [] = -1 := rfl
      rw [hpc]
      refine c_Bu_splitAll (c_Bu_splitAll_0 hs1 (s_passC (d := d + 3) (t := t) (at_ := 0) hw hs1 g1.1 hC1 hpi hb hc hT1 g2 a2 (fun q hq => okT_C (a1 q hq).1) hsz (Or.inl rfl) ⟨yLe.rf, ?_⟩ 0 0 rfl))
      have := h [] (-1) (by unfold shp; rw [hn]) (fun z => absurd z (by decide)) e1 M1 cs1 cl1 g1 g2 g3
      rw [if_pos (by decide)] at this
      exact this
    | cons r rs =>
      obtain ⟨a, ha⟩ : ∃ a, a = fOp r.2.1 w.toNat 0 := ⟨_, rfl⟩
      have hshp : shp D w col rows = if a < 0 then some (r :: rs, -1) else (nA D col a 50 [] (r :: rs)).map (fun q => (q, a)) := by unfold shp; rw [hn, ha]
      have hpc : pcl π col w (r :: rs) = if a < 0 then -1 else π (col a) := by unfold pcl; rw [show fA w (r :: rs) = a from ha.symm]
      have hA := fA_is (w := w) (rows := r :: rs) hc.1
      have hA2 : fA w (r :: rs) = a := by rw [ha]; rfl
      rw [hA2] at hA
      have a4 := a4 r rs rfl
      rw [← ha] at a4
      rw [hpc]
      by_cases hneg : a < 0
      · rw [if_pos hneg] at hshp ⊢
        refine c_Bu_splitAll (c_Bu_splitAll_0 hs1 (s_passC (d := d + 3) (t := t) (at_ := 0) hw hs1 g1.1 hC1 hpi hb hc hT1 g2 a2 (fun q hq => okT_C (a1 q hq).1) hsz (Or.inl rfl) ⟨yLe.rf, ?_⟩ (r :: rs).length 0 (by omega)))
        have := h (r :: rs) (-1) hshp (fun z => absurd z (by decide)) e1 M1 cs1 cl1 g1 g2 g3
        rw [if_pos (by decide)] at this
        exact this
      · rw [if_neg hneg] at hshp ⊢
        have haw : 0 ≤ a ∧ a < w := by omega
        have hca := hc.2.2.1 a haw.1 haw.2
        have hpa := hpi.1 _ hca.1.1 hca.1.2
        have hra : 0 ≤ r.2.1 a := by
          rcases fOp_is (f := r.2.1) w.toNat 0 with ⟨z, -⟩ | ⟨z1, z2, z3, z4⟩
          · omega
          · rw [ha]; exact z3
        refine c_Bu_splitAll (c_Bu_splitAll_0 hs1 ?_)
        have := (s_sA (d := d) (t := t) (Q := fun e9 M8 => yLe e1 e9 ∧ R (π (col a)) e9 M8) hw hwb hpi hb hc haw 50 e1 cs1 cl1 M1 [] (r :: rs) 0 hs1 g1.1 hC1 hT1 (by rw [ht1]; exact ht) g2 a2 (by rw [List.nil_append]; omega) (fun _ => by rw [List.nil_append, List.length_cons]; omega) (by omega) a1 (by rw [List.nil_append]; omega) (by rw [List.nil_append]; omega) (fun hn2 e2 M2 cs2 cl2 k1 => ?_) (fun rows2 hn2 e2 M2 cs2 cl2 k1 k2 k3 => ?_)).1 rfl
        · exact this
        · refine ⟨k1.2.1, ?_⟩
          obtain ⟨hT2, ht2⟩ := hTr_D hT1 hs1 k1
          obtain ⟨l2, gr2⟩ := lpS_t0 h99 hT2.1 k1.1
          refine hover (by rw [hshp, hn2]; rfl) e2 _ cs2 cl2 _ (by omega) (lpS_trans (lpS_std (t := t) (std_trans g1 k1)) l2) (by rw [xrs]) ?_
          rw [xrd (show (29 : Nat) ≠ t by omega), k1.2.2.2.1.2 5 (by decide) (by decide) (by decide)]
          exact g1.2.2.2.1.2 5 (by decide) (by decide) (by decide)
        · refine ⟨k1.2.1, ?_⟩
          obtain ⟨l, hl2⟩ := nA_hd hn2 (fun z => a4 ⟨haw.1, z⟩)
          have := h rows2 a (by rw [hshp, hn2]; rfl) (fun _ ty => by rw [hl2]; exact brs_ne hra) e2 M2 cs2 cl2 (std_trans g1 k1) k2 (by rw [List.nil_append] at k3; omega)
          rw [if_neg hneg] at this
          exact this
end CLR
