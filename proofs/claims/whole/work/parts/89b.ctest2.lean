/-! ===== the class: growTest's loop ===== -/
theorem pCl_cg {M M' D : xM} (h19 : M' 19 = M 19) (h21 : M' 21 = M 21) (h24 : M' 24 = M 24) (h : pCl M D) : pCl M' D := by
  intro p hp; rw [h19, h21, h24]; exact h p hp
theorem tCl_cg {M M' D : xM} (h2 : M' 2 = M 2) (h3 : M' 3 = M 3) (h4 : M' 4 = M 4) (h5 : M' 5 = M 5) (h : tCl M D) : tCl M' D := by
  unfold tCl; rw [h2, h3, h4, h5]; exact h
theorem cR_cg {D M M' : xM} {π col : Int → Int} {w : Int} {rows : List aR} (hg : grL M M') (h9 : M' 29 9 = M 29 9) (h41 : M' 41 = M 41) (h : cR D M π w col rows) : cR D M' π w col rows := by
  refine ⟨by rw [h9]; exact h.1, fun j r hr => ?_⟩
  rw [h41]; exact crw_gr hg (h.2 j r hr)
theorem lbl_cg {M M' : xM} {ks : List Int} (h11 : M' 29 11 = M 29 11) (h42 : M' 42 = M 42) (h : lbl M ks) : lbl M' ks := by
  unfold lbl; rw [h11, h42]; exact h
theorem wtg_cg {M M' : xM} {ws : List Int} (h5 : M' 29 5 = M 29 5) (h38 : M' 38 = M 38) (h : wtg M ws) : wtg M' ws := by
  unfold wtg; rw [h5, h38]; exact h
/-- branches that have grown, from a base -/
def gAl (D : xM) (t : Nat) (π : Int → Int) (w : Int) (col : Int → Int) (np ty at_ : Int) (rows : List aR) (lo n fp : Int) (dn : List (Int × Bool)) (e : yE) (M : xM) (cs cl : Nat) (e' : yE) (M' : xM) (cs' cl' : Nat) : Prop :=
  stB t lo n fp e M cs cl e' M' cs' cl' ∧ (∀ (j : Nat) k o, dn[j]? = some (k, o) → grn D t π w col np ty at_ rows fp M' (lo + j) k o) ∧ M' 30 0 = M 30 0 + nPS D at_ rows dn ∧ M' 34 0 ≤ M 34 0 + 86 * nPS D at_ rows dn ∧ (fp ≤ M' t 4 ∧ M' t 4 ≤ fp + 3 * dn.length)
section CGL
variable {D E : xM} {d : Nat} {t : Nat} {π col : Int → Int} {w np b at_ fp n lo : Int}
theorem stB_keep {e e1 : yE} {M M1 : xM} {cs cl cs1 cl1 : Nat} (hs : CSh e) (ht : hTr e M t) (hg : stB t lo n fp e M cs cl e1 M1 cs1 cl1) : hTr e1 M1 t ∧ (∀ j, j < 59 → j ≠ 29 → j ≠ 30 → j ≠ 34 → j ≠ 39 → j ≠ 40 → j ≠ 43 → j ≠ 44 → ¬ isC e j → M1 j = M j) := by
  obtain ⟨a, b1, c⟩ := ht
  refine ⟨⟨a.le hg.2.1, by rw [hg.2.2.2.1.2.1 17 (by decide) (by decide)]; exact b1, c⟩, fun j h0 h1 h2 h3 h4 h5 h6 h7 h8 => ?_⟩
  exact hg.2.2.2.1.1 j (Nat.lt_of_lt_of_le h0 hs.1) h1 h2 h3 h4 h5 h6 h7 (by omega) (by omega) (by omega) (by omega) (by omega) h8
theorem stB_all {e e1 : yE} {M M1 : xM} {cs cl cs1 cl1 : Nat} {rows : List aR} {ks ws : List Int} (hs : CSh e) (ht : hTr e M t) (hg : stB t lo n fp e M cs cl e1 M1 cs1 cl1) (hC : pCl M D) (hY : tCl M D) (hR : cR D M π w col rows) : pCl M1 D ∧ tCl M1 D ∧ cR D M1 π w col rows ∧ (lbl M ks → lbl M1 ks) ∧ (wtg M ws → wtg M1 ws) := by
  have f := (stB_keep hs ht hg).2
  have g : ∀ j, j < 59 → j ≠ 29 → j ≠ 30 → j ≠ 34 → j ≠ 39 → j ≠ 40 → j ≠ 43 → j ≠ 44 → ¬ isC e j → M1 j = M j := f
  have h29 := hg.2.2.2.1.2.1
  have n2 : ¬ isC e 2 := nC_o (t := 17) (h := hs.2 (2, 17, 0) (List.mem_of_getElem? (i := 1) rfl) (by decide))
  refine ⟨pCl_cg ?_ ?_ ?_ hC, tCl_cg ?_ ?_ ?_ ?_ hY, cR_cg hg.2.2.2.2 (h29 9 (by decide) (by decide)) ?_ hR, lbl_cg (h29 11 (by decide) (by decide)) ?_, wtg_cg (h29 5 (by decide) (by decide)) ?_⟩
  · exact f 19 (by decide) (by decide) (by decide) (by decide) (by decide) (by decide) (by decide) (by decide) (nC_19 hs)
  · exact f 21 (by decide) (by decide) (by decide) (by decide) (by decide) (by decide) (by decide) (by decide) (nC_21 hs)
  · exact f 24 (by decide) (by decide) (by decide) (by decide) (by decide) (by decide) (by decide) (by decide) (nC_24 hs)
  · exact f 2 (by decide) (by decide) (by decide) (by decide) (by decide) (by decide) (by decide) (by decide) n2
  · exact f 3 (by decide) (by decide) (by decide) (by decide) (by decide) (by decide) (by decide) (by decide) (nC_a (caa_3 hs) (by decide))
  · exact f 4 (by decide) (by decide) (by decide) (by decide) (by decide) (by decide) (by decide) (by decide) (nC_a (caa_4 hs) (by decide))
  · exact f 5 (by decide) (by decide) (by decide) (by decide) (by decide) (by decide) (by decide) (by decide) (nC_a (caa_5 hs) (by decide))
  · exact f 41 (by decide) (by decide) (by decide) (by decide) (by decide) (by decide) (by decide) (by decide) (nC_41 hs)
  · exact f 42 (by decide) (by decide) (by decide) (by decide) (by decide) (by decide) (by decide) (by decide) (nC_a (caa_42 hs) (by decide))
  · exact f 38 (by decide) (by decide) (by decide) (by decide) (by decide) (by decide) (by decide) (by decide) (nC_a (caa_38 hs) (by decide))
/-- one branch more -/
theorem s_grow1 {e e1 : yE} {cs cl cs1 cl1 : Nat} {M M1 : xM} {Q : yE → xM → Prop} {rows : List aR} {dn : List (Int × Bool)} {key : Int} {oth : Bool} (hw : wfP D) (hwt : wfT D) (hwb : wfB D) (hpi : piO π np b) (hb : b ≤ fp) (hb0 : 0 ≤ b) (hc : okCo D w col np E) (hat : 0 ≤ at_ ∧ at_ < w) (hlo : 0 ≤ lo) (hn : lo + n ≤ 120) (ho : ∀ r ∈ rows, okR D w col np E r ∧ ¬ (0 ≤ r.2.1 at_ ∧ D 68 (r.2.1 at_) = 4) ∧ nmU D w r) (hl : rows.length ≤ 24) (hkey : rg key) (hkk : okK D (E 88 (col at_)) key oth) (hk2 : 0 < E 88 (col at_) → 0 ≤ key ∧ key < D 60 (E 88 (col at_)))
    (hs : CSh e) (hC : pCl M D) (hY : tCl M D) (hT : hTr e M t) (hR : cR D M π w col rows) (hfp2 : fp + 3 * n ≤ 360) (hty : M (t + 2) (π (col at_)) = E 88 (col at_)) (hz : M 34 0 + 172 * rows.length < 499500) (hz3 : M 30 0 + 2 * rows.length < 8000) (hdn : (dn.length : Int) < n) (hnp : nPS D at_ rows dn ≤ rows.length)
    (hg : gAl D t π w col np (E 88 (col at_)) at_ rows lo n fp dn e M cs cl e1 M1 cs1 cl1)
    (h : ∀ e' M' cs' cl', gAl D t π w col np (E 88 (col at_)) at_ rows lo n fp (dn ++ [(key, oth)]) e M cs cl e' M' cs' cl' → yLe e1 e' → Q e' M') :
    C_Bu_growBranch e1 (d + 5) (lo + dn.length) (π (col at_)) key (oI oth) M1 Q := by
  obtain ⟨g1, g2, g3, g4, g5⟩ := hg
  have hs1 := hs.le g1.2.1
  obtain ⟨hT1, -⟩ := stB_keep hs hT g1
  obtain ⟨hC1, hY1, hR1, -, -⟩ := stB_all (ks := []) (ws := []) hs hT g1 hC hY hR
  have hca := hc.2.2.1 at_ hat.1 hat.2
  have hpa := hpi.1 _ hca.1.1 hca.1.2
  have hty1 : M1 (t + 2) (π (col at_)) = E 88 (col at_) := by rw [g1.2.2.2.1.2.2.2.1 _ (by omega)]; exact hty
  have hnr : 0 ≤ nPs D (E 88 (col at_)) key ∧ nPs D (E 88 (col at_)) key ≤ 3 := by
    unfold nPs
    by_cases z : E 88 (col at_) = 0
    · rw [if_pos z]; omega
    · rw [if_neg z]
      have := hk2 (by omega)
      exact (hwt.2.2.2 _ key hca.2.2.1 hca.2.2.2 this.1 this.2).1
  refine s_growBranch (fp := M1 t 4) (b := b) hw hwt hwb hpi (by omega) hb0 hc hat (by omega) ho hl hkey hkk hk2 rfl rfl hs1 g1.1 hC1 hY1 hT1 hR1 rfl (by omega) hty1 (by omega) (by omega) ?_
  intro e' M' cs' cl' k1 k2 k3 k4 k5 k6 k7 k8 k9
  have hS : nPS D at_ rows (dn ++ [(key, oth)]) = nPS D at_ rows dn + nPt D at_ key oth rows := by rw [nPS_app]; rfl
  refine h e' M' cs' cl' ⟨stB_trans g1 (stB_G (by omega) g5.1 k1), fun j k o hj => ?_, by rw [hS, k3, g3]; omega, by rw [hS]; omega, by rw [List.length_append, List.length_singleton, k8]; omega⟩ k1.2.1
  by_cases hj2 : j < dn.length
  · rw [List.getElem?_append_left hj2] at hj
    exact grn_G (by omega) hl k1 rfl (by omega) (g2 j k o hj)
  · have hr2 : j = dn.length := by
      rcases Nat.lt_or_ge j (dn ++ [(key, oth)]).length with z | z
      · rw [List.length_append, List.length_singleton] at z; omega
      · rw [List.getElem?_eq_none z] at hj; cases hj
    subst hr2
    rw [List.getElem?_append_right (Nat.le_refl _), Nat.sub_self] at hj
    have hj : (key, oth) = (k, o) := Option.some.inj hj
    cases hj
    exact ⟨M1 t 4, g5.1, by omega, k5, k6, k7, k2, k9⟩
end CGL
