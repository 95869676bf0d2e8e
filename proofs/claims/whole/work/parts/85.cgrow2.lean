/-! ===== the class: growBranch ===== -/
/-- a node's rows that are kept -/
def kpt (D M : xM) (π : Int → Int) (w : Int) (col : Int → Int) (i : Int) (acc : List aR) : Prop := M 40 i = acc.length ∧ ∀ (r : Nat) q, acc[r]? = some q → crw D M π w col (M 39 (i * 24 + r)) q
/-- how many rows get parts -/
def nPt (D : xM) (at_ key : Int) (oth : Bool) : List aR → Nat
  | [] => 0
  | r :: rs => (if 0 ≤ r.2.1 at_ ∧ oth = false ∧ D 70 (r.2.1 at_) = key then 1 else 0) + nPt D at_ key oth rs
/-- the tree's own cells stay -/
def sT (t : Nat) (M M' : xM) : Prop := ∀ j, (j = t ∨ j = t + 2 ∨ j = t + 9 ∨ j = t + 10 ∨ j = t + 11) → M' j = M j
theorem sT_trans {t : Nat} {M M1 M2 : xM} (h : sT t M M1) (h2 : sT t M1 M2) : sT t M M2 := fun j hj => (h2 j hj).trans (h j hj)
section CG2
variable {D E : xM} {d : Nat} {t : Nat} {π col : Int → Int} {w np b at_ key i fp n m : Int} {oth : Bool}
/-- one row more is kept -/
theorem s_keepG {e : yE} {cs cl : Nat} {M : xM} {Q : xM → Prop} {π' col' : Int → Int} {w' s : Int} {acc : List aR} {q : aR} (hs : CSh e) (hT : hTr e M t) (hP : hpP e M cs cl) (hi : 0 ≤ i ∧ i < 120) (hk : kpt D M π' w' col' i acc) (hl : acc.length < 24) (hq : crw D M π' w' col' s q) (h : ∀ M', stG t i fp e M cs cl e M' cs cl → kpt D M' π' w' col' i (acc ++ [q]) → (∀ j, j ≠ 39 → j ≠ 40 → M' j = M j) → Q M') : C_Bu_keep e (d + 1) i s M Q := by
  obtain ⟨k1, k2⟩ := hk
  have h99 := hT.2.2
  refine c_Bu_keep (c_Bu_keep_0 hs ⟨hi, by omega, fun M1 e1 => ⟨hi, hi, fun M2 e2 => ?_⟩⟩)
  obtain ⟨u1, u2⟩ := stG_up (t := t) (i := i) (fp := fp) (k := 39) (x := i * 24 + M 40 i) (v := s) hs hT.1 h99 hP (Or.inr (Or.inr (Or.inl ⟨rfl, by omega⟩)))
  rw [← e1] at u1 u2
  obtain ⟨v1, v2⟩ := stG_up (t := t) (i := i) (fp := fp) (k := 40) (x := i) (v := M1 40 i + 1) hs hT.1 h99 u1.1 (Or.inr (Or.inr (Or.inr (Or.inl ⟨rfl, rfl⟩))))
  rw [← e2] at v1 v2
  have g := stG_trans u1 v1
  refine h M2 g ⟨?_, fun r q' hq' => ?_⟩ (fun j h39 h40 => by rw [e2, xrd h40, e1, xrd h39])
  · rw [e2, xrs, e1, xrd (by decide), k1, List.length_append, List.length_singleton]; omega
  · have e39 : M2 39 (i * 24 + r) = M1 39 (i * 24 + r) := by rw [e2, xrd (by decide)]
    rw [e39]
    by_cases hr : r < acc.length
    · rw [List.getElem?_append_left hr] at hq'
      rw [e1, xri (by omega)]
      exact crw_gr g.2.2.2.2 (k2 r q' hq')
    · have hr2 : r = acc.length := by
        rcases Nat.lt_or_ge r (acc ++ [q]).length with z | z
        · rw [List.length_append, List.length_singleton] at z; omega
        · rw [List.getElem?_eq_none z] at hq'; cases hq'
      subst hr2
      rw [List.getElem?_append_right (Nat.le_refl _), Nat.sub_self] at hq'
      have hq' : q = q' := Option.some.inj hq'
      subst hq'
      rw [e1, k1, xrs]
      exact crw_gr g.2.2.2.2 hq
theorem s_gB105 {rows : List aR} (hw : wfP D) (hwt : wfT D) (hwb : wfB D) (hpi : piO π np b) (hb : b ≤ 1000) (hc : okCo D w col np E) (hat : 0 ≤ at_ ∧ at_ < w) (hi : 0 ≤ i ∧ i < 120) (ho : ∀ r ∈ rows, okR D w col np E r ∧ ¬ (0 ≤ r.2.1 at_ ∧ D 68 (r.2.1 at_) = 4) ∧ nmU D w r) (hl : rows.length ≤ 24) (hkey : rg key) (hm : m = bMn D (E 88 (col at_)) key oth) (hmr : 0 ≤ m ∧ m ≤ 3) (hn : n = nPs D (E 88 (col at_)) key) (hnr : 0 ≤ n ∧ n ≤ 3) : ∀ (todo dn : List aR) (e : yE) (cs cl : Nat) (M : xM) (Q : yE → xM → Prop), rows = dn ++ todo → CSh e → hpP e M cs cl → pCl M D → hTr e M t → cR D M π w col rows → kpt D M (piN π np fp) (w - 1 + m) (bCol col np at_ m) i (bRs D np at_ m key oth dn) → M (t + 11) i = fp → M 34 0 + 86 * todo.length < 499500 → M 30 0 + todo.length < 8000 →
    (∀ e' M' cs' cl', stG t i fp e M cs cl e' M' cs' cl' → kpt D M' (piN π np fp) (w - 1 + m) (bCol col np at_ m) i (bRs D np at_ m key oth rows) → M' 30 0 = M 30 0 + nPt D at_ key oth todo → M' 34 0 ≤ M 34 0 + 86 * nPt D at_ key oth todo → sT t M M' → Q e' M') →
    C_Bu_growBranch_105 e (d + 4) i (π (col at_)) key (oI oth) n dn.length M Q := by
  intro todo
  induction todo with
  | nil =>
    intro dn e cs cl M Q hk hs hP hC hT hR hkp h11 hz hz3 h
    have h9 := hR.1
    rw [List.append_nil] at hk
    subst hk
    refine c_Bu_growBranch_105 hs ⟨⟨⟨by omega, by omega⟩, ⟨by omega, by omega⟩⟩, fun _ => h e M cs cl (stG_refl hP) hkp (by simp [nPt]) (by simp [nPt]) (fun _ _ => rfl), fun z => absurd (by omega) z⟩
  | cons r rs ih =>
    intro dn e cs cl M Q hk hs hP hC hT hR hkp h11 hz hz3 h
    have h9 := hR.1
    have h99 := hT.2.2
    have hgr : rows[dn.length]? = some r := by rw [hk, List.getElem?_append_right (Nat.le_refl _), Nat.sub_self]; rfl
    have hlen : rows.length = dn.length + rs.length + 1 := by rw [hk, List.length_append, List.length_cons]; omega
    obtain ⟨or1, or2, or3⟩ := ho r (List.mem_of_getElem? hgr)
    have hv := okC_rg hw (okT_C or1.1) hat.1 hat.2
    have e2 : (((dn ++ [r]).length : Nat) : Int) = (dn.length : Int) + 1 := by rw [List.length_append, List.length_singleton]; omega
    have hk2 : rows = (dn ++ [r]) ++ rs := by rw [hk]; simp
    have hbl := bRs_len (D := D) (np := np) (at_ := at_) (m := m) (key := key) (oth := oth) dn
    have hcr := hR.2 _ r hgr
    rw [List.length_cons] at hz hz3
    have e0 : ∀ x, nPt D at_ key oth (r :: x) = (if 0 ≤ r.2.1 at_ ∧ oth = false ∧ D 70 (r.2.1 at_) = key then 1 else 0) + nPt D at_ key oth x := fun _ => rfl
    rw [e0] at h
    -- a row that is left out
    have skip : ¬ (r.2.1 at_ < 0 ∨ (oth = false ∧ D 70 (r.2.1 at_) = key)) → C_Bu_growBranch_105 e (d + 4) i (π (col at_)) key (oI oth) n ((dn.length : Int) + 1) M Q := by
      intro hc2
      rw [if_neg (fun z => hc2 (Or.inr z.2)), Nat.zero_add] at h
      have e6 : bRs D np at_ m key oth (dn ++ [r]) = bRs D np at_ m key oth dn := by
        rw [bRs_app]
        have : bRs D np at_ m key oth [r] = [] := by unfold bRs; rw [if_neg hc2]; rfl
        rw [this, List.append_nil]
      have := ih (dn ++ [r]) e cs cl M Q hk2 hs hP hC hT hR (by rw [e6]; exact hkp) h11 (by omega) (by omega) h
      rw [e2] at this; exact this
    -- a row that is kept
    have go : ∀ (e1 : yE) (M1 : xM) (cs1 cl1 : Nat) (s : Int) (c : Nat), (c = if 0 ≤ r.2.1 at_ ∧ oth = false ∧ D 70 (r.2.1 at_) = key then 1 else 0) → (r.2.1 at_ < 0 ∨ (oth = false ∧ D 70 (r.2.1 at_) = key)) → CSh e1 → stG t i fp e M cs cl e1 M1 cs1 cl1 → M1 30 0 = M 30 0 + c → M1 34 0 ≤ M 34 0 + 86 * c → c ≤ 1 → sT t M M1 → kpt D M1 (piN π np fp) (w - 1 + m) (bCol col np at_ m) i (bRs D np at_ m key oth dn) → crw D M1 (piN π np fp) (w - 1 + m) (bCol col np at_ m) s (bRw D np at_ m r) → C_Bu_keep e1 (d + 4) i s M1 (fun M4 => C_Bu_growBranch_105 e1 (d + 4) i (π (col at_)) key (oI oth) n ((dn.length : Int) + 1) M4 Q) := by
      intro e1 M1 cs1 cl1 s c hcc hin hs1 g1 g30 g34 hc1 hsT hkp1 hcr1
      rw [← hcc] at h
      obtain ⟨hT1, -⟩ := stG_keep hs hT g1
      refine s_keepG (t := t) (fp := fp) (cs := cs1) (cl := cl1) hs1 hT1 g1.1 hi hkp1 (by omega) hcr1 ?_
      intro M4 k1 k2 k3
      have g4 := stG_trans g1 k1
      obtain ⟨hT4, -⟩ := stG_keep hs hT g4
      have e6 : bRs D np at_ m key oth (dn ++ [r]) = bRs D np at_ m key oth dn ++ [bRw D np at_ m r] := by
        rw [bRs_app]
        have : bRs D np at_ m key oth [r] = [bRw D np at_ m r] := by unfold bRs; rw [if_pos hin]; rfl
        rw [this]
      have sT4 : sT t M M4 := sT_trans hsT (fun j hj => k3 j (by omega) (by omega))
      have k30 : M4 30 = M1 30 := k3 30 (by decide) (by decide)
      have k34 : M4 34 = M1 34 := k3 34 (by decide) (by decide)
      have := ih (dn ++ [r]) e1 cs1 cl1 M4 Q hk2 hs1 k1.1 (pCl_G hs hT g4 hC) hT4 (cR_G hs hT g4 hR) (by rw [e6]; exact k2) (by rw [sT4 (t + 11) (by omega)]; exact h11) (by rw [k34]; omega) (by rw [k30]; omega) ?_
      · rw [e2] at this; exact this
      · intro e5 M5 cs5 cl5 f1 f2 f3 f4 f5
        exact h e5 M5 cs5 cl5 (stG_trans g4 f1) f2 (by rw [f3, k30, g30]; omega) (by rw [k34] at f4; omega) (sT_trans sT4 f5)
    refine c_Bu_growBranch_105 hs ⟨⟨⟨by omega, by omega⟩, ⟨by omega, by omega⟩⟩, fun z => absurd z (by omega), fun _ => ⟨by omega, s_patAt hw hs hP (by omega) hpi hb hc hat (okT_C or1.1) hcr ?_⟩⟩
    refine ⟨⟨by omega, by omega⟩, fun z => ⟨by rcases oI_01 (oth := oth) with y | y <;> (rw [y]; exact ⟨by omega, by omega⟩), fun z2 => skip ?_, fun z2 => ⟨by omega, ?_⟩⟩, fun z => ⟨by omega, ?_⟩⟩
    · rintro (y | y)
      · omega
      · rw [y.1] at z2; exact z2 rfl
    · -- its label
      have hp : isP D (r.2.1 at_) := okT_P or1.1 hat.1 hat.2 (by omega)
      have ho2 : oth = false := by
        have := Classical.not_not.mp z2
        cases oth with
        | false => rfl
        | true => exact absurd this (by decide)
      rw [(hC _ hp).1]
      refine ⟨⟨(hw.2 _ hp).2.2.1, hkey⟩, fun z3 => skip ?_, fun z3 => ?_⟩
      · rintro (y | y)
        · omega
        · exact z3 y.2
      · have z3 : D 70 (r.2.1 at_) = key := Classical.not_not.mp z3
        intro M3 e3
        have hnm : n = m := by
          rw [hn, hm, ho2]; unfold nPs bMn
          by_cases y : E 88 (col at_) = 0
          · rw [if_pos y, if_pos (Or.inr y)]
          · rw [if_neg y, if_neg (by rintro (q | q); cases q; exact y q)]
        obtain ⟨u1, u2⟩ := stG_up (t := t) (i := i) (fp := fp) (k := 29) (x := 13) (v := n) hs hT.1 h99 hP (Or.inl ⟨rfl, by omega⟩)
        rw [← e3] at u1 u2
        have hin : r.2.1 at_ < 0 ∨ (oth = false ∧ D 70 (r.2.1 at_) = key) := Or.inr ⟨ho2, z3⟩
        have hcs := bIn_pt hw hat or1.1 or2 hin hm
        have hp0 := hp.1
        have hp1 := hp.2
        have h300 := hw.1
        -- its parts
        have prts : ∀ (j : Nat) (k : Int) (M4 : xM), 0 ≤ k → k + (j : Int) = n → stG t i fp e M cs cl e M4 cs cl → M4 30 = M 30 → M4 34 = M 34 → sT t M M4 → M4 29 13 = n → M4 39 = M 39 → M4 40 = M 40 → M4 41 = M 41 → (∀ x, 0 ≤ x → x < k → M4 43 x = prt D (r.2.1 at_) x) → C_Bu_growBranch_177 e (d + 4) i (π (col at_)) key (oI oth) n dn.length (r.2.1 at_) k M4 Q := by
          intro j
          induction j with
          | zero =>
            intro k M4 k0 k1 g4 g30 g34 gT g13 g39 g40 g41 g43
            obtain ⟨hT4, -⟩ := stG_keep hs hT g4
            refine c_Bu_growBranch_177 hs ⟨⟨⟨by omega, by omega⟩, ⟨by omega, by omega⟩⟩, fun _ => ⟨by omega, t, ⟨hT4.2.1, hT.1⟩, hi, ?_⟩, fun y => absurd (by omega) y⟩
            rw [gT (t + 11) (by omega), h11, g41]
            refine s_rowput (D := D) (m := m) (key := key) (fp := fp) hw hwt hwb hs g4.1 (pCl_G hs hT g4 hC) hpi hb hc hat or1 or2 or3 (by omega) z3 (by rw [hm, ho2]) hmr (crw_gr g4.2.2.2.2 hcr) (by rw [g13, hnm]) (fun x x0 x1 => g43 x x0 (by omega)) (by rw [g34]; omega) (by rw [g30]; omega) ?_
            intro e5 M5 cs5 cl5 f1 f2 f3 f4
            have hs5 := hs.le f1.2.1
            have g5 := stG_trans g4 (stp_stG (t := t) (i := i) (fp := fp) hs hT.1 h99 f1)
            have hlt := hT.1.2.1
            obtain ⟨n1, n2, n3, n4, n5⟩ := nCt hT.1
            have fT : sT t M4 M5 := by
              intro j hj
              refine f1.2.2.2.1.1 j (by omega) (by omega) (by omega) (by omega) (by omega) ?_
              rcases hj with y | y | y | y | y
              · rw [y]; exact n1
              · rw [y]; exact n2
              · rw [y]; exact n3
              · rw [y]; exact n4
              · rw [y]; exact n5
            have f39 : M5 39 = M4 39 := frP_c hs f1.2.2.2.1 (by decide) (by decide) (nC_a (caa_39 hs) (by decide))
            have f40 : M5 40 = M4 40 := frP_c hs f1.2.2.2.1 (by decide) (by decide) (nC_a (caa_40 hs) (by decide))
            refine ⟨f1.2.1, go e5 M5 cs5 cl5 (M4 30 0) 1 (by rw [if_pos ⟨by omega, ho2, z3⟩]) hin hs5 g5 (by rw [f2, g30]; rfl) (by rw [g34] at f3; omega) (Nat.le_refl _) (sT_trans gT fT) ⟨by rw [f40, g40]; exact hkp.1, fun x q hq => ?_⟩ f4⟩
            rw [f39, g39]
            exact crw_gr (grL_trans g4.2.2.2.2 f1.2.2.2.2) (hkp.2 x q hq)
          | succ j ihj =>
            intro k M4 k0 k1 g4 g30 g34 gT g13 g39 g40 g41 g43
            have hkm : k < m := by omega
            have h24 : M4 24 (r.2.1 at_ * 3 + k) = prt D (r.2.1 at_) k := by
              rcases hcs with ⟨y, -⟩ | ⟨-, -, -, y⟩ | ⟨-, -, y2, ymm, -⟩
              · omega
              · omega
              · exact (((pCl_G hs hT g4 hC) _ hp).2.2.2.1 y2).2 k k0 (by omega)
            refine c_Bu_growBranch_177 hs ⟨⟨⟨by omega, by omega⟩, ⟨by omega, by omega⟩⟩, fun y => absurd y (by omega), fun _ => s_partOf (c5_18 hs) (by omega) hs ⟨by omega, fun M8 e8 => ?_⟩⟩
            rw [show (18 + 6 : Nat) = 24 from rfl, h24] at e8
            obtain ⟨q1, q2⟩ := stG_up (t := t) (i := i) (fp := fp) (k := 43) (x := k) (v := prt D (r.2.1 at_) k) hs hT.1 h99 g4.1 (Or.inr (Or.inl rfl))
            rw [← e8] at q1 q2
            refine ihj (k + 1) M8 (by omega) (by omega) (stG_trans g4 q1) (by rw [e8, xrd (by decide)]; exact g30) (by rw [e8, xrd (by decide)]; exact g34) (sT_trans gT (fun j hj => by rw [e8, xrd (by omega)])) (by rw [e8, xrd (by decide)]; exact g13) (by rw [e8, xrd (by decide)]; exact g39) (by rw [e8, xrd (by decide)]; exact g40) (by rw [e8, xrd (by decide)]; exact g41) (fun x x0 x1 => ?_)
            by_cases y : x = k
            · rw [y, e8, xrs]
            · rw [e8, xri y]; exact g43 x x0 (by omega)
        refine prts n.toNat 0 M3 (by omega) (by omega) u1 (by rw [e3, xrd (by decide)]) (by rw [e3, xrd (by decide)]) (fun j hj => by rw [e3, xrd (by omega)]) (by rw [e3, xrs]) (by rw [e3, xrd (by decide)]) (by rw [e3, xrd (by decide)]) (by rw [e3, xrd (by decide)]) (fun x x0 x1 => by omega)
    · -- ANY
      have z : r.2.1 at_ = -1 := Classical.not_not.mp z
      exact go e M cs cl (M 41 dn.length) 0 (by rw [if_neg (by omega)]) (Or.inl (by omega)) hs (stG_refl hP) (by simp) (by simp) (by omega) (fun _ _ => rfl) hkp (crw_any hat hc hmr or1 (by omega) hcr)
end CG2
