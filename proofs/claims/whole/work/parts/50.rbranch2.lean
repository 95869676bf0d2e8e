/-! ===== the reference: a branch of a test, whole ===== -/
section RBR2
variable {e : yE} {d : Nat} {D E : xM} {s en w cb cb' lst at_ key m lh np q ty : Int} {col : Int → Int} {oth : Bool}
def oI (oth : Bool) : Int := if oth = true then 1 else 0
theorem oI_01 {oth : Bool} : oI oth = 0 ∨ oI oth = 1 := by cases oth <;> simp [oI]
theorem s_br254 {Mx : xM} {Q : xM → Prop} {rows : List aR} (hs : RSh e) (hwp : wfP D) (e68 : Mx 68 = D 68) (e70 : Mx 70 = D 70) (e71 : Mx 71 = D 71) (hat : 0 ≤ at_ ∧ at_ < w) (hw : w ≤ 300) (hm : 0 ≤ m ∧ m ≤ 3) (hs0 : 0 ≤ s) (hen : en = s + rows.length) (hen2 : en + 25 ≤ 8000) (hcb : 0 ≤ cb' ∧ cb' + 25 * (w - 1 + m) ≤ 2300000) (hlh : 0 ≤ lh ∧ lh + (w - 1 + m) ≤ 100000) (hkey : rg key)
    (h87 : ∀ j, 0 ≤ j → j < w - 1 + m → Mx 87 (lh + j) = bCol col np at_ m j) (hl : rows.length ≤ 24) (hrow : ∀ (i : Nat) q, rows[i]? = some q → rwI Mx (s + i) w q ∧ 0 ≤ Mx 84 (s + i) ∧ Mx 84 (s + i) + w ≤ cb') (hok : ∀ q ∈ rows, okC D w q) (hpt : ∀ r ∈ rows, (r.2.1 at_ < 0 ∨ (oth = false ∧ D 70 (r.2.1 at_) = key)) → ∀ j, 0 ≤ j → j < m → bPt D (r.2.1 at_) j = -1 ∨ isP D (bPt D (r.2.1 at_) j))
    (h : ∀ M', ndR M' en (w - 1 + m) cb' (bRs D np at_ m key oth rows) → frS en cb' Mx M' → R_node e (d + 1) en lh (w - 1 + m) M' (fun M1 => Q (xup (xup M1 59 42 np) 59 35 lh))) :
    ∀ (todo dn : List aR) (M : xM), rows = dn ++ todo → ndR M en (w - 1 + m) cb' (bRs D np at_ m key oth dn) → frS en cb' Mx M → R_branch_254 e (d + 1) en at_ key (oI oth) w m lh np (s + dn.length) M Q := by
  intro todo
  induction todo with
  | nil =>
    intro dn M hr hn hfr
    rw [List.append_nil] at hr
    subst hr
    refine t_branch_254 hs ⟨⟨⟨by omega, by omega⟩, ⟨by omega, by omega⟩⟩, fun _ => ?_, fun c => absurd (by omega) c⟩
    have e5 : (fun M1 : xM => ∀ M2 : xM, M2 = xup M1 59 42 np → ∀ M3 : xM, M3 = xup M2 59 35 lh → Q M3) = (fun M1 => Q (xup (xup M1 59 42 np) 59 35 lh)) := by
      funext M1
      apply propext
      constructor
      · intro z; exact z _ rfl _ rfl
      · intro z M2 e2 M3 e3; rw [e3, e2]; exact z
    rw [e5]
    exact h M hn hfr
  | cons r rs ih =>
    intro dn M hr hn hfr
    have hgr : rows[dn.length]? = some r := by rw [hr, List.getElem?_append_right (Nat.le_refl _), Nat.sub_self]; rfl
    have hlr : dn.length < rows.length := by rw [hr, List.length_append, List.length_cons]; omega
    obtain ⟨hI, ha0, ha1⟩ := hrow dn.length r hgr
    have hmem : r ∈ rows := List.mem_of_getElem? hgr
    have hokr := hok r hmem
    have g84 : M 84 (s + dn.length) = Mx 84 (s + dn.length) := hfr 84 _ ⟨by omega, by omega, by omega, by omega, by omega⟩
    have hI2 : rwI M (s + dn.length) w r := by
      refine ⟨?_, fun k h0 h1 => ?_, fun a h0 h1 => ?_⟩
      · rw [hfr 83 _ ⟨by omega, by omega, by omega, by omega, by omega⟩]; exact hI.1
      · rw [g84, hfr 86 _ ⟨by omega, by omega, by omega, by omega, by omega⟩]; exact hI.2.1 k h0 h1
      · rw [hfr 85 _ ⟨by omega, by omega, by omega, by omega, by omega⟩]; exact hI.2.2 a h0 h1
    have hcell := hI2.2.1 at_ hat.1 hat.2
    have hv := okC_rg hwp hokr hat.1 hat.2
    have g70 : M 70 = D 70 := by rw [frS_c hfr 70 (by omega), e70]
    have hr2 : rows = (dn ++ [r]) ++ rs := by rw [hr]; simp
    have hln : (bRs D np at_ m key oth dn).length < 24 := by have := bRs_len (D := D) (np := np) (at_ := at_) (m := m) (key := key) (oth := oth) dn; omega
    have hxx : s + ((dn ++ [r]).length : Int) = s + dn.length + 1 := by rw [List.length_append, List.length_singleton]; omega
    have skip : ¬ (r.2.1 at_ < 0 ∨ (oth = false ∧ D 70 (r.2.1 at_) = key)) → R_branch_254 e (d + 1) en at_ key (oI oth) w m lh np (s + dn.length + 1) M Q := by
      intro hc
      rw [← hxx]
      refine ih (dn ++ [r]) M hr2 ?_ hfr
      rw [bRs_app]
      have e6 : bRs D np at_ m key oth [r] = [] := by unfold bRs; rw [if_neg hc]; rfl
      rw [e6, List.append_nil]; exact hn
    have take : (r.2.1 at_ < 0 ∨ (oth = false ∧ D 70 (r.2.1 at_) = key)) → R_branch_291 e (d + 1) en at_ key (oI oth) w m lh np (s + dn.length) (r.2.1 at_) M Q := by
      intro hc
      refine s_br291 hs hwp (by rw [frS_c hfr 68 (by omega), e68]) g70 (by rw [frS_c hfr 71 (by omega), e71]) hat hw hm (by omega) (by omega) hcb hlh (fun j h0 h1 => by rw [frS_c hfr 87 (by omega)]; exact h87 j h0 h1) hn hln hI2 (by omega) hokr (hpt r hmem hc) ?_
      intro M' hn' hfr'
      rw [← hxx]
      refine ih (dn ++ [r]) M' hr2 ?_ (frS_trans hfr hfr')
      rw [bRs_app]
      have e6 : bRs D np at_ m key oth [r] = [bRw D np at_ m r] := by unfold bRs; rw [if_pos hc]; rfl
      rw [e6]; exact hn'
    refine t_branch_254 hs ⟨⟨⟨by omega, by omega⟩, ⟨by omega, by omega⟩⟩, fun c => absurd c (by omega), fun _ => s_cell hs (by omega) (by omega) ?_⟩
    rw [hcell]
    refine ⟨⟨by omega, by omega⟩, fun c => take (Or.inl c), fun c => ⟨by rcases oI_01 (oth := oth) with z | z <;> (rw [z]; exact ⟨by omega, by omega⟩), fun c2 => skip ?_, fun c2 => ⟨by omega, ⟨?_, hkey⟩, fun c3 => skip ?_, fun c3 => take ?_⟩⟩⟩
    · rintro (z | ⟨z, -⟩)
      · omega
      · exact c2 (by rw [z]; rfl)
    · rw [g70]
      rcases hokr at_ hat.1 hat.2 with z | z
      · omega
      · exact (hwp.2 _ z).2.2.1
    · rw [g70] at c3
      rintro (z | ⟨z, z2⟩)
      · omega
      · exact c3 z2
    · rw [g70] at c3
      right
      refine ⟨?_, Classical.not_not.mp c3⟩
      have c4 := Classical.not_not.mp c2
      cases oth with
      | false => rfl
      | true => exact absurd c4 (by decide)
/-- what stays of the reference while trees are gone through -/
def stt (D M : xM) : Prop := ∀ c i, (c < 59 ∨ (59 < c ∧ c < 83) ∨ 95 < c ∨ (c = 59 ∧ i ≠ 31 ∧ i ≠ 33 ∧ i ≠ 35 ∧ i ≠ 42 ∧ i ≠ 45 ∧ i ≠ 46 ∧ i ≠ 48 ∧ i ≠ 50)) → M c i = D c i
theorem stt_c {M : xM} (h : stt D M) (c : Nat) (hc : c < 59 ∨ (59 < c ∧ c < 83) ∨ 95 < c) : M c = D c := by
  funext i; exact h c i (by omega)
/-- what is known of places -/
def plc (M : xM) (np : Int) (E : xM) : Prop := ∀ q, 0 ≤ q → q < np → M 88 q = E 88 q ∧ M 89 q = E 89 q ∧ (E 89 q = 1 → M 90 q = E 90 q ∧ M 91 q = E 91 q ∧ M 92 q = E 92 q)
/-- there is room -/
def bnd (N s w cb lst lh np : Int) : Prop := (0 ≤ N ∧ N ≤ 120) ∧ (0 ≤ s ∧ s ≤ 24 * N) ∧ (0 ≤ w ∧ w ≤ 3 + 2 * N) ∧ (0 ≤ cb ∧ cb ≤ 5880 * N) ∧ (0 ≤ lst ∧ lst + w ≤ lh ∧ lh ≤ 245 * N + 245) ∧ (0 ≤ np ∧ np ≤ 3 + 3 * N)
/-- what stays when a branch is begun -/
def frB (en cb' lh np q : Int) (M M' : xM) : Prop := ∀ c i, ¬ (c = 59 ∧ (i = 31 ∨ i = 33 ∨ i = 35 ∨ i = 42)) → (c = 83 → i < en) → (c = 84 → i < en) → (c = 85 → i < 16 * en) → (c = 86 → i < cb') → (c = 87 → i < lh) → (c = 88 ∨ c = 89 ∨ c = 93 → i < np) → (c = 89 ∨ c = 90 ∨ c = 91 ∨ c = 92 → i ≠ q) → M' c i = M c i
theorem s_branch {M : xM} {Q : xM → Prop} {rows : List aR} {N : Int} (hs : RSh e) (hwp : wfP D) (hwt : wfT D) (hst : stt D M) (hn : ndR M s w cb rows) (h87 : ∀ k, 0 ≤ k → k < w → M 87 (lst + k) = col k) (h42 : M 59 42 = np) (h88 : M 88 (col at_) = E 88 (col at_)) (hp : ∀ x, 0 ≤ x → x < np → x ≠ col at_ → M 88 x = E 88 x ∧ M 89 x = E 89 x ∧ (E 89 x = 1 → M 90 x = E 90 x ∧ M 91 x = E 91 x ∧ M 92 x = E 92 x)) (hb : bnd N s w cb lst lh np) (hN : N < 120) (h35 : M 59 35 = lh) (hwf : wfN D w col np E rows) (hat : 0 ≤ at_ ∧ at_ < w) (hne : ∀ q ∈ rows, ¬ (0 ≤ q.2.1 at_ ∧ D 68 (q.2.1 at_) = 4)) (hk : okK D (E 88 (col at_)) key oth) (hkey : rg key)
    (h44 : M 59 44 = 0 ∨ M 59 44 = 1) (hv : M 59 44 = 1 → 0 ≤ M 93 (col at_) ∧ M 93 (col at_) < 300) (hm : m = bMn D (E 88 (col at_)) key oth)
    (h : ∀ M', ndR M' (s + rows.length) (w - 1 + m) (cb + (rows.length : Int) * w) (bRs D np at_ m key oth rows) → (∀ j, 0 ≤ j → j < w - 1 + m → M' 87 (lh + j) = bCol col np at_ m j) → M' 59 42 = np + m → M' 59 35 = lh + (w - 1 + m) → plc M' (np + m) (bEn D E (col at_) np m key oth) → (∀ j, 0 ≤ j → j < m → M' 93 (np + j) = (if M 59 44 = 0 then -1 else M 66 (3 * M 93 (col at_) + j))) → frB (s + rows.length) (cb + (rows.length : Int) * w) lh np (col at_) M M' →
      R_node e (d + 1) (s + rows.length) lh (w - 1 + m) M' (fun M1 => Q (xup (xup M1 59 42 np) 59 35 lh))) :
    R_branch e (d + 2) s (s + rows.length) at_ key (oI oth) lst w M Q := by
  obtain ⟨hN0, hs1, hw1, hcb1, hl1, hnp1⟩ := hb
  obtain ⟨⟨-, -, hcol, hinj⟩, hrs, hlen⟩ := hwf
  have hca := hcol at_ hat.1 hat.2
  obtain ⟨q, hq⟩ : ∃ q, q = col at_ := ⟨_, rfl⟩
  rw [← hq] at hca hk hm h hv h88 hp
  have hmr := bMn_rg hwt hca.2.2 hk
  rw [← hm] at hmr
  have hq87 : M 87 (lst + at_) = q := by rw [h87 at_ hat.1 hat.2, hq]
  have hty8 : E 88 q < 8 := by have := hwt.1; omega
  have hm1 := mul_0 (i := rows.length) (w := w) hw1.1
  have hm2 := mul_le (i := rows.length) (j := 24) (w := w) hlen hw1.1
  have hm3 : ((24 : Nat) : Int) * w = 24 * w := rfl
  have hkk : 0 < m → (0 ≤ E 88 q ∧ E 88 q < 8) ∧ (0 ≤ key ∧ key < 6) := by
    intro hm0
    rw [hm] at hm0
    unfold bMn at hm0
    by_cases hz : oth = true ∨ E 88 q = 0
    · rw [if_pos hz] at hm0; omega
    · have h2 : oth = false := by cases oth <;> simp at hz ⊢
      have := hk h2 (fun z => hz (Or.inr z))
      have := hwt.2.1 (E 88 q) hca.2.2.1 hty8
      omega
  -- from the marks on
  have hmain : R_branch_42 e (d + 1) s (s + rows.length) at_ key (oI oth) lst w q (E 88 q) m M Q := by
    refine t_branch_42 hs (fun M1 e1 => ⟨by omega, fun M2 e2 => ⟨by omega, fun M3 e3 => ⟨⟨by omega, oI_01⟩, fun M4 e4 => ⟨by omega, fun M5 e5 => ?_⟩⟩⟩⟩)
    have g42 : M4 59 42 = np := by rw [e4, xrd (by decide), e3, xrd (by decide), e2, xrd (by decide), e1, xri (by decide)]; exact h42
    rw [g42] at e5
    rw [h35, h42]
    rw [h35] at e1
    have f5 : ∀ c i, ¬ (c = 59 ∧ i = 35) → (c = 89 ∨ c = 90 ∨ c = 91 ∨ c = 92 → i ≠ q) → M5 c i = M c i := by
      intro c i h1 h2
      rw [e5, xup_ap, if_neg (fun z => h2 (by omega) z.2), e4, xup_ap, if_neg (fun z => h2 (by omega) z.2), e3, xup_ap, if_neg (fun z => h2 (by omega) z.2), e2, xup_ap, if_neg (fun z => h2 (by omega) z.2), e1, xup_ap, if_neg h1]
    have q89 : M5 89 q = 1 := by rw [e5, xrd (by decide), e4, xrd (by decide), e3, xrd (by decide), e2, xrs]
    have q90 : M5 90 q = key := by rw [e5, xrd (by decide), e4, xrd (by decide), e3, xrs]
    have q91 : M5 91 q = oI oth := by rw [e5, xrd (by decide), e4, xrs]
    have q92 : M5 92 q = np := by rw [e5, xrs]
    have q35 : M5 59 35 = lh + (w - 1 + m) := by rw [e5, xrd (by decide), e4, xrd (by decide), e3, xrd (by decide), e2, xrd (by decide), e1, xrs]; omega
    have f44 : M5 59 44 = M 59 44 := f5 59 44 (by omega) (by omega)
    have f93 : M5 93 q = M 93 q := f5 93 q (by omega) (by omega)
    have f66 : M5 66 = M 66 := by funext i; exact f5 66 i (by omega) (by omega)
    refine s_br112 (col := col) (D := D) hs hat (by omega) hmr (by omega) (by omega) (by omega) (by omega) (fun k h0 h1 => by rw [f5 87 _ (by omega) (by omega)]; exact h87 k h0 h1) (by funext i; rw [f5 62 i (by omega) (by omega)]; exact hst 62 i (by omega)) (by rw [f5 59 42 (by omega) (by omega)]; exact h42) (by rw [f44]; exact h44) (by rw [f44, f93]; exact hv) hkk ?_
    intro M6 fr6 a42 a87 anew
    rw [f44, f66, f93] at anew
    have hrowM : ∀ (i : Nat) x, rows[i]? = some x → rwI M6 (s + i) w x ∧ 0 ≤ M6 84 (s + i) ∧ M6 84 (s + i) + w ≤ cb + (rows.length : Int) * w := by
      intro i x hx
      have hi : i < rows.length := by
        rcases Nat.lt_or_ge i rows.length with h | h
        · exact h
        · rw [List.getElem?_eq_none h] at hx; cases hx
      have g : ∀ c, c = 83 ∨ c = 84 ∨ c = 85 ∨ c = 86 → ∀ j, M6 c j = M c j := by
        intro c hc j
        rw [fr6 c j (by omega) (by omega) (by omega), f5 c j (by omega) (by omega)]
      obtain ⟨b1, b2, b3⟩ := hn.2.2.2 i x hx
      have c1 := hn.2.2.1 i hi
      have hm4 := mul_st (i := i) (j := rows.length) (w := w) hi hw1.1
      have hm5 := mul_0 (i := i) (w := w) hw1.1
      refine ⟨⟨by rw [g 83 (by omega)]; exact b1, fun k h0 h1 => by rw [g 84 (by omega), g 86 (by omega)]; exact b2 k h0 h1, fun a h0 h1 => by rw [g 85 (by omega)]; exact b3 a h0 h1⟩, ?_, ?_⟩
      · rw [g 84 (by omega)]; omega
      · rw [g 84 (by omega)]; omega
    have gst : ∀ c, (59 < c ∧ c < 83) → M6 c = D c := by
      intro c hc
      funext i
      rw [fr6 c i (by omega) (by omega) (by omega), f5 c i (by omega) (by omega)]
      exact hst c i (by omega)
    have h254 := s_br254 (e := e) (d := d) (Mx := M6) (Q := Q) (D := D) (rows := rows) (s := s) (en := s + rows.length) (w := w) (cb' := cb + (rows.length : Int) * w) (at_ := at_) (key := key) (m := m) (lh := lh) (np := np) (col := col) (oth := oth) hs hwp (gst 68 (by omega)) (gst 70 (by omega)) (gst 71 (by omega)) hat (by omega) hmr hs1.1 rfl (by omega) (by omega) (by omega) hkey a87 hlen hrowM (fun x hx => okT_C (hrs x hx).1) ?_ ?_ rows [] M6 rfl ?_ frS_refl
    · rw [show s + (([] : List aR).length : Int) = s by simp] at h254
      exact h254
    · intro r hr hin j h0 h1
      rcases bPt_is (D := D) (oth := oth) (key := key) (j := j) (ty := E 88 q) hwp hwt (by rw [hq]; exact okT_at hwp (hrs r hr).1 hat (hne r hr)) hin h0 (by rw [← hm]; exact h1) with z | z
      · exact Or.inl z
      · exact Or.inr z.1
    · intro M' hn' hfr'
      have hkeep : frB (s + rows.length) (cb + (rows.length : Int) * w) lh np q M M' := by
        intro c i k0 k1 k2 k3 k4 k5 k6 k7
        rw [hfr' c i ⟨by omega, k1, k2, k3, k4⟩, fr6 c i (by omega) k5 k6, f5 c i (by omega) k7]
      refine h M' hn' (fun j h0 h1 => by rw [frS_c hfr' 87 (by omega)]; exact a87 j h0 h1) (by rw [frS_o hfr' 42 (by omega)]; exact a42) (by rw [frS_o hfr' 35 (by omega), fr6 59 35 (by omega) (by omega) (by omega)]; exact q35) ?_ (fun j h0 h1 => by rw [frS_c hfr' 93 (by omega)]; exact (anew j h0 h1).2.2) hkeep
      intro x x0 x1
      have e88 : M' 88 = M6 88 := frS_c hfr' 88 (by omega)
      have e89 : M' 89 = M6 89 := frS_c hfr' 89 (by omega)
      have e90 : M' 90 = M6 90 := frS_c hfr' 90 (by omega)
      have e91 : M' 91 = M6 91 := frS_c hfr' 91 (by omega)
      have e92 : M' 92 = M6 92 := frS_c hfr' 92 (by omega)
      rw [e88, e89, e90, e91, e92]
      by_cases hx : x < np
      · have g : ∀ c, c = 88 ∨ c = 89 ∨ c = 90 ∨ c = 91 ∨ c = 92 → M6 c x = M5 c x := fun c hc => fr6 c x (by omega) (by omega) (by omega)
        rw [g 88 (by omega), g 89 (by omega), g 90 (by omega), g 91 (by omega), g 92 (by omega)]
        by_cases hxq : x = q
        · subst hxq
          have b88 : bEn D E x np m key oth 88 x = E 88 x := by unfold bEn; rw [if_neg (by omega), if_neg (by omega), if_neg (by omega), if_neg (by omega), if_neg (by omega), if_neg (by omega)]
          have b89 : bEn D E x np m key oth 89 x = 1 := by unfold bEn; rw [if_neg (by omega), if_neg (by omega), if_pos ⟨rfl, rfl⟩]
          have b90 : bEn D E x np m key oth 90 x = key := by unfold bEn; rw [if_neg (by omega), if_neg (by omega), if_neg (by omega), if_pos ⟨rfl, rfl⟩]
          have b91 : bEn D E x np m key oth 91 x = oI oth := by unfold bEn; rw [if_neg (by omega), if_neg (by omega), if_neg (by omega), if_neg (by omega), if_pos ⟨rfl, rfl⟩]; rfl
          have b92 : bEn D E x np m key oth 92 x = np := by unfold bEn; rw [if_neg (by omega), if_neg (by omega), if_neg (by omega), if_neg (by omega), if_neg (by omega), if_pos ⟨rfl, rfl⟩]
          rw [b88, b89, b90, b91, b92]
          exact ⟨by rw [f5 88 x (by omega) (by omega)]; exact h88, q89, fun _ => ⟨q90, q91, q92⟩⟩
        · have bE : ∀ c, bEn D E q np m key oth c x = E c x := by
            intro c
            unfold bEn; rw [if_neg (by omega), if_neg (by omega), if_neg (fun z => hxq z.1), if_neg (fun z => hxq z.1), if_neg (fun z => hxq z.1), if_neg (fun z => hxq z.1)]
          have g5 : ∀ c, c = 88 ∨ c = 89 ∨ c = 90 ∨ c = 91 ∨ c = 92 → M5 c x = M c x := fun c hc => f5 c x (by omega) (fun _ => hxq)
          rw [bE, bE, bE, bE, bE, g5 88 (by omega), g5 89 (by omega), g5 90 (by omega), g5 91 (by omega), g5 92 (by omega)]
          exact hp x x0 hx hxq
      · have := anew (x - np) (by omega) (by omega)
        rw [show np + (x - np) = x by omega] at this
        have b88 : bEn D E q np m key oth 88 x = D 62 (3 * (6 * E 88 q + key) + (x - np)) := by unfold bEn; rw [if_pos ⟨rfl, by omega, by omega⟩]
        have b89 : bEn D E q np m key oth 89 x = 0 := by unfold bEn; rw [if_neg (fun z => absurd z.1 (by decide)), if_pos ⟨rfl, by omega, by omega⟩]
        rw [b88, b89]
        exact ⟨this.1, this.2.1, fun z => by omega⟩
    · exact ⟨by rw [fr6 59 31 (by omega) (by omega) (by omega), f5 59 31 (by omega) (by omega), hn.1]; simp [bRs], by rw [fr6 59 33 (by omega) (by omega) (by omega), f5 59 33 (by omega) (by omega), hn.2.1]; simp [bRs], fun i hi => by simp [bRs] at hi, fun i x hx => by simp [bRs] at hx⟩
  refine t_branch (t_branch_0 hs ?_)
  rw [hq87, h88]
  refine ⟨by omega, by omega, by rcases oI_01 (oth := oth) with z | z <;> (rw [z]; exact ⟨by omega, by omega⟩), fun c => ?_, fun c => ⟨⟨by omega, by omega⟩, fun c2 => ?_, fun c2 => ?_⟩⟩
  · have ho : oth = true := by
      cases oth with
      | true => rfl
      | false => exact absurd rfl c
    have hm0 : m = 0 := by rw [hm]; unfold bMn; rw [if_pos (Or.inl ho)]
    rw [hm0] at hmain; exact hmain
  · have ho : oth = false := by
      cases oth with
      | false => rfl
      | true => exact absurd (by decide) c
    have := hk ho c2
    have h6 := hwt.2.1 (E 88 q) hca.2.2.1 hty8
    have hm0 : m = D 61 (6 * E 88 q + key) := by rw [hm]; unfold bMn; rw [if_neg (by rintro (z | z); rw [ho] at z; cases z; exact c2 z)]
    refine s_countOf hs (by omega) ?_
    rw [stt_c hst 61 (by omega), ← hm0]; exact hmain
  · have hm0 : m = 0 := by rw [hm]; unfold bMn; rw [if_pos (Or.inr (Classical.not_not.mp c2))]
    rw [hm0] at hmain; exact hmain
end RBR2
