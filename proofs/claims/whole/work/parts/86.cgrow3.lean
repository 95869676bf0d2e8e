/-! ===== the class: growBranch, whole ===== -/
section CG3
variable {D E : xM} {d : Nat} {t : Nat} {π col : Int → Int} {w np b at_ key i fp n m : Int} {oth : Bool}
theorem s_growBranch {e : yE} {cs cl : Nat} {M : xM} {Q : yE → xM → Prop} {rows : List aR} (hw : wfP D) (hwt : wfT D) (hwb : wfB D) (hpi : piO π np b) (hb : b ≤ fp) (hb0 : 0 ≤ b) (hc : okCo D w col np E) (hat : 0 ≤ at_ ∧ at_ < w) (hi : 0 ≤ i ∧ i < 120) (ho : ∀ r ∈ rows, okR D w col np E r ∧ ¬ (0 ≤ r.2.1 at_ ∧ D 68 (r.2.1 at_) = 4) ∧ nmU D w r) (hl : rows.length ≤ 24) (hkey : rg key) (hkk : okK D (E 88 (col at_)) key oth) (hk2 : 0 < E 88 (col at_) → 0 ≤ key ∧ key < D 60 (E 88 (col at_))) (hm : m = bMn D (E 88 (col at_)) key oth) (hn : n = nPs D (E 88 (col at_)) key)
    (hs : CSh e) (hP : hpP e M cs cl) (hC : pCl M D) (hY : tCl M D) (hT : hTr e M t) (hR : cR D M π w col rows) (hfp : M t 4 = fp) (hfp2 : fp + 3 ≤ 360) (hty : M (t + 2) (π (col at_)) = E 88 (col at_)) (hz : M 34 0 + 86 * rows.length < 499500) (hz3 : M 30 0 + rows.length < 8000)
    (h : ∀ e' M' cs' cl', stG t i fp e M cs cl e' M' cs' cl' → kpt D M' (piN π np fp) (w - 1 + m) (bCol col np at_ m) i (bRs D np at_ m key oth rows) → M' 30 0 = M 30 0 + nPt D at_ key oth rows → M' 34 0 ≤ M 34 0 + 86 * nPt D at_ key oth rows → M' (t + 9) i = key → M' (t + 10) i = oI oth → M' (t + 11) i = fp → M' t 4 = fp + n → (∀ j, 0 ≤ j → j < n → M' (t + 2) (fp + j) = D 62 (3 * (6 * E 88 (col at_) + key) + j)) → Q e' M') :
    C_Bu_growBranch e (d + 5) i (π (col at_)) key (oI oth) M Q := by
  have h99 := hT.2.2
  have hca := hc.2.2.1 at_ hat.1 hat.2
  have hpa := hpi.1 _ hca.1.1 hca.1.2
  have hmr := bMn_rg hwt hca.2.2 hkk
  rw [← hm] at hmr
  have h8 := hwt.1
  have hnr : 0 ≤ n ∧ n ≤ 3 := by
    rw [hn]; unfold nPs
    by_cases z : E 88 (col at_) = 0
    · rw [if_pos z]; omega
    · rw [if_neg z]
      have := hk2 (by omega)
      exact (hwt.2.2.2 _ key hca.2.2.1 hca.2.2.2 this.1 this.2).1
  refine c_Bu_growBranch (c_Bu_growBranch_0 hs ⟨t, ⟨hT.2.1, hT.1⟩, hi, fun M2 e2 => ?_⟩)
  obtain ⟨u1, -⟩ := stG_up (t := t) (i := i) (fp := fp) (k := t + 9) (x := i) (v := key) hs hT.1 h99 hP (by omega)
  rw [← e2] at u1
  obtain ⟨hT2, -⟩ := stG_keep hs hT u1
  refine ⟨t, ⟨hT2.2.1, hT.1⟩, ⟨hi, oI_01⟩, fun M4 e4 => ?_⟩
  obtain ⟨v1, -⟩ := stG_up (t := t) (i := i) (fp := fp) (k := t + 10) (x := i) (v := oI oth) hs hT.1 h99 u1.1 (by omega)
  rw [← e4] at v1
  have g4 := stG_trans u1 v1
  obtain ⟨hT4, -⟩ := stG_keep hs hT g4
  refine ⟨t, ⟨hT4.2.1, hT.1⟩, t, ⟨hT4.2.1, hT.1⟩, hi, fun M7 e7 => ?_⟩
  have f44 : M4 t 4 = fp := by rw [e4, xrd (by omega), e2, xrd (by omega)]; exact hfp
  rw [f44] at e7
  obtain ⟨w1, -⟩ := stG_up (t := t) (i := i) (fp := fp) (k := t + 11) (x := i) (v := fp) hs hT.1 h99 v1.1 (by omega)
  rw [← e7] at w1
  have g7 := stG_trans g4 w1
  obtain ⟨hT7, -⟩ := stG_keep hs hT g7
  have q11 : M7 (t + 11) i = fp := by rw [e7, xrs]
  have q10 : M7 (t + 10) i = oI oth := by rw [e7, xrd (by omega), e4, xrs]
  have q9 : M7 (t + 9) i = key := by rw [e7, xrd (by omega), e4, xrd (by omega), e2, xrs]
  have q2 : M7 (t + 2) = M (t + 2) := by rw [e7, xrd (by omega), e4, xrd (by omega), e2, xrd (by omega)]
  have q4 : M7 t 4 = fp := by rw [e7, xrd (by omega)]; exact f44
  have q30 : M7 30 = M 30 := by rw [e7, xrd (by omega), e4, xrd (by omega), e2, xrd (by omega)]
  have q34 : M7 34 = M 34 := by rw [e7, xrd (by omega), e4, xrd (by omega), e2, xrd (by omega)]
  refine ⟨t, ⟨hT7.2.1, hT.1⟩, by omega, ?_⟩
  rw [q2, hty]
  refine s_partsOfC hs hwt (tCl_G hs hT g7 hY) hca.2.2 hkey hk2 ?_
  rw [← hn]
  -- its places
  have plcs : ∀ (j : Nat) (k : Int) (M8 : xM), 0 ≤ k → k + (j : Int) = n → stG t i fp e M cs cl e M8 cs cl → M8 30 = M 30 → M8 34 = M 34 → M8 (t + 9) = M7 (t + 9) → M8 (t + 10) = M7 (t + 10) → M8 (t + 11) = M7 (t + 11) → M8 t 4 = fp + k → (∀ x, 0 ≤ x → x < k → M8 (t + 2) (fp + x) = D 62 (3 * (6 * E 88 (col at_) + key) + x)) → C_Bu_growBranch_63 e (d + 4) i (π (col at_)) key (oI oth) (E 88 (col at_)) n k M8 Q := by
    intro j
    induction j with
    | zero =>
      intro k M8 k0 k1 g8 r30 r34 r9 r10 r11 r4 r2
      obtain ⟨hT8, -⟩ := stG_keep hs hT g8
      refine c_Bu_growBranch_63 hs ⟨⟨⟨by omega, by omega⟩, ⟨by omega, by omega⟩⟩, fun _ => ⟨hi, fun M9 e9 => ?_⟩, fun z => absurd (by omega) z⟩
      obtain ⟨x1, -⟩ := stG_up (t := t) (i := i) (fp := fp) (k := 40) (x := i) (v := 0) hs hT.1 h99 g8.1 (by omega)
      rw [← e9] at x1
      have g9 := stG_trans g8 x1
      obtain ⟨hT9, -⟩ := stG_keep hs hT g9
      have s30 : M9 30 = M 30 := by rw [e9, xrd (by omega)]; exact r30
      have s34 : M9 34 = M 34 := by rw [e9, xrd (by omega)]; exact r34
      have := s_gB105 (D := D) (E := E) (d := d) (t := t) (π := π) (col := col) (w := w) (np := np) (b := b) (at_ := at_) (key := key) (i := i) (fp := fp) (n := n) (m := m) (oth := oth) (rows := rows) hw hwt hwb hpi (by omega) hc hat hi ho hl hkey hm hmr hn hnr rows [] e cs cl M9 Q rfl hs g9.1 (pCl_G hs hT g9 hC) hT9 (cR_G hs hT g9 hR) ⟨by rw [e9, xrs]; rfl, fun r q hq => by simp [bRs] at hq⟩ (by rw [e9, xrd (by omega), r11]; exact q11) (by rw [s34]; exact hz) (by rw [s30]; exact hz3) ?_
      · exact this
      · intro e5 M5 cs5 cl5 f1 f2 f3 f4 f5
        refine h e5 M5 cs5 cl5 (stG_trans g9 f1) f2 (by rw [f3, s30]) (by rw [s34] at f4; exact f4) (by rw [f5 (t + 9) (by omega), e9, xrd (by omega), r9]; exact q9) (by rw [f5 (t + 10) (by omega), e9, xrd (by omega), r10]; exact q10) (by rw [f5 (t + 11) (by omega), e9, xrd (by omega), r11]; exact q11) (by rw [f5 t (by omega), e9, xrd (by omega), r4]; omega) (fun x x0 x1 => ?_)
        rw [f5 (t + 2) (by omega), e9, xrd (by omega)]
        exact r2 x x0 (by omega)
    | succ j ih =>
      intro k M8 k0 k1 g8 r30 r34 r9 r10 r11 r4 r2
      obtain ⟨hT8, -⟩ := stG_keep hs hT g8
      have hty0 : 0 < E 88 (col at_) := by
        by_cases z : E 88 (col at_) = 0
        · rw [hn] at k1; unfold nPs at k1; rw [if_pos z] at k1; omega
        · have := hca.2.2.1; omega
      have hkv := hk2 hty0
      have hnD : n = D 61 (6 * E 88 (col at_) + key) := by rw [hn]; unfold nPs; rw [if_neg (by omega)]
      have h60 := hwt.2.1 (E 88 (col at_)) hca.2.2.1 (by omega)
      have h5 := ((tCl_G hs hT g8 hY).2.2 _ key hca.2.2.1 hca.2.2.2 hkv.1 hkv.2).2 k k0 (by omega)
      refine c_Bu_growBranch_63 hs ⟨⟨⟨by omega, by omega⟩, ⟨by omega, by omega⟩⟩, fun z => absurd z (by omega), fun _ => ⟨t, ⟨hT8.2.1, hT.1⟩, c_Ty_partTypeOf (c_Ty_partTypeOf_0 hs ⟨by omega, ?_⟩)⟩⟩
      rw [h5]
      refine c_Tr_addPlace (c_Tr_addPlace_0 hs hT.1 ⟨by omega, fun M1 e1 M2' e2' => ?_⟩)
      obtain ⟨y1, -⟩ := stG_up (t := t) (i := i) (fp := fp) (k := t + 2) (x := M8 t 4) (v := D 62 (3 * (6 * E 88 (col at_) + key) + k)) hs hT.1 h99 g8.1 (by omega)
      rw [← e1] at y1
      obtain ⟨y2, -⟩ := stG_up (t := t) (i := i) (fp := fp) (k := t) (x := 4) (v := M1 t 4 + 1) hs hT.1 h99 y1.1 (by omega)
      rw [← e2'] at y2
      refine ih (k + 1) M2' (by omega) (by omega) (stG_trans g8 (stG_trans y1 y2)) (by rw [e2', xrd (by omega), e1, xrd (by omega)]; exact r30) (by rw [e2', xrd (by omega), e1, xrd (by omega)]; exact r34) (by rw [e2', xrd (by omega), e1, xrd (by omega)]; exact r9) (by rw [e2', xrd (by omega), e1, xrd (by omega)]; exact r10) (by rw [e2', xrd (by omega), e1, xrd (by omega)]; exact r11) (by rw [e2', xrs, e1, xrd (by omega), r4]; omega) (fun x x0 x1 => ?_)
      rw [e2', xrd (by omega), e1, r4]
      by_cases z : x = k
      · rw [z, xrs]
      · rw [xri (by omega)]; exact r2 x x0 (by omega)
  exact plcs n.toNat 0 M7 (by omega) (by omega) g7 q30 q34 rfl rfl rfl (by rw [q4]; omega) (fun x x0 x1 => by omega)
end CG3
