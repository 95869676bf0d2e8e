/-! ===== the class: a tree that stands ===== -/
/-- the tree of a match, as it lies in memory -/
def stT (D : xM) (t : Nat) (m : Int) (M : xM) (nd : Int → aN) (pi : Int → Int → Int) (evs : List aV) : Prop :=
  fin_ D m 120 [root D m] = some evs ∧ (M t 0 = 0 ∧ 1 ≤ M t 1 ∧ M t 1 ≤ 120 ∧ 0 ≤ M t 4 ∧ M t 4 ≤ 360) ∧
  (∀ i, 0 ≤ i → i < M t 1 → ndC D t M nd pi i ∧ prC D t m M nd pi i) ∧ (nd 0 = root D m ∧ pi 0 = fun q => q) ∧
  (∀ k, 0 ≤ k → k < 4 → M (t + 1) k = cntK k evs) ∧ M t 2 = ndM 0 evs ∧ ffC M t nd evs [] ∧ ∃ hw, paI D t m M nd pi hw []
/-- stale no more: too large, or it stands -/
def trO (D : xM) (t : Nat) (m : Int) (M : xM) : Prop := (M t 0 = 1 ∧ fin_ D m 120 [root D m] = none) ∨ ∃ nd pi evs, stT D t m M nd pi evs
section CTT
variable {D : xM} {t mq : Nat} {m : Int} {M M' : xM} {nd : Int → aN} {pi : Int → Int → Int}
theorem fin_ne {evs : List aV} {n : Nat} {a : aN} (h : fin_ D m n [a] = some evs) : 1 ≤ evs.length := by
  cases evs with
  | cons v l => rw [List.length_cons]; omega
  | nil =>
    cases n with
    | zero => cases h
    | succ n =>
      cases hq : shp D a.1 a.2.1 a.2.2.2.2 with
      | none => rw [show fin_ D m (n + 1) [a] = none from fin_over (np := a.2.2.1) (E := a.2.2.2.1) hq] at h; cases h
      | some q =>
        have e : fin_ D m (n + 1) [a] = _ := fin_some (m := m) (np := a.2.2.1) (E := a.2.2.2.1) (S := []) (n := n) hq
        rw [e] at h
        cases hf : fin_ D m n (chd D m a.1 a.2.1 a.2.2.1 a.2.2.2.1 q.1 q.2 ++ []) with
        | none => rw [hf] at h; cases h
        | some l => rw [hf] at h; cases h
theorem iv_stT {evs : List aV} (h : ivT D t m M nd pi evs []) (hpa : ∃ hw, paI D t m M nd pi hw []) : stT D t m M nd pi evs := by
  obtain ⟨a1, ⟨b1, b2, b3, b4, b5⟩, c, d1, e, f, g1, g2, k⟩ := h
  have hf := fin_done a1
  have := fin_ne hf
  rw [List.length_nil] at b2
  exact ⟨hf, ⟨b1, by omega, b3, b4, by omega⟩, fun i i0 i1 => ⟨(d1 i i0 i1).1, (d1 i i0 i1).2.2 (by simp)⟩, e, g1, g2, k, hpa⟩
theorem stT_cg {evs : List aV} (hf : ∀ j, t ≤ j → j ≤ t + 12 → M' j = M j) (h : stT D t m M nd pi evs) : stT D t m M' nd pi evs := by
  have h0 := hf t (by omega) (by omega)
  have h1 := hf (t + 1) (by omega) (by omega)
  have h2 := hf (t + 2) (by omega) (by omega)
  have h3 := hf (t + 3) (by omega) (by omega)
  have h4 := hf (t + 4) (by omega) (by omega)
  have h5 := hf (t + 5) (by omega) (by omega)
  have h6 := hf (t + 6) (by omega) (by omega)
  have h7 := hf (t + 7) (by omega) (by omega)
  have h8 := hf (t + 8) (by omega) (by omega)
  have h9 := hf (t + 9) (by omega) (by omega)
  have ha := hf (t + 10) (by omega) (by omega)
  have hb := hf (t + 11) (by omega) (by omega)
  have hc := hf (t + 12) (by omega) (by omega)
  unfold stT ffC paI frI ndC prC brC at *
  rw [h0, h1, h2, h3, h4, h5, h6, h7, h8, h9, ha, hb, hc]
  exact h
theorem trO_cg (hf : ∀ j, t ≤ j → j ≤ t + 12 → M' j = M j) (h : trO D t m M) : trO D t m M' := by
  rcases h with ⟨h1, h2⟩ | ⟨nd, pi, evs, h⟩
  · exact Or.inl ⟨by rw [hf t (by omega) (by omega)]; exact h1, h2⟩
  · exact Or.inr ⟨nd, pi, evs, stT_cg hf h⟩
/-- what stands() leaves: its frame -/
def snS (t mq : Nat) (e : yE) (M : xM) (cs cl : Nat) (e' : yE) (M' : xM) (cs' cl' : Nat) : Prop := hpP e' M' cs' cl' ∧ yLe e e' ∧ rmC e e' cs cl cs' cl' ∧ (∀ j, j < e.1 → j ≠ mq → j ≠ 29 → j ≠ 30 → j ≠ 34 → ¬ (38 ≤ j ∧ j ≤ 44) → ¬ (t ≤ j ∧ j ≤ t + 12) → ¬ isC e j → M' j = M j) ∧ (∀ x, x ≠ 7 → M' mq x = M mq x)
theorem s_stands {d : Nat} {e : yE} {cs cl : Nat} {Q : Int → yE → xM → Prop} (hw : wfP D) (hwt : wfT D) (hwb : wfB D) (hM : wfM D m) (hno : ∀ r, 0 ≤ r → r < D 77 m → rno D m r) (hU : ∀ r ∈ rtL D m (D 77 m).toNat, nmU D (D 75 m) r) (hs : CSh e) (hP : hpP e M cs cl) (hC : pCl M D) (hY : tCl M D) (hq : XSh3 mq e) (hmt : mq + 5 = t) (h99 : 99 < mq) (hm : mCl M mq D m) (hg : ∀ r, 0 ≤ r → r < 12 → M (mq + 3) r = D 79 (12 * m + r) ∧ (D 79 (12 * m + r) = -1 ∨ (0 ≤ D 79 (12 * m + r) ∧ D 79 (12 * m + r) < 16)))
    (h7 : rg (M mq 7)) (ht : M mq 7 = 0 → trO D t m M)
    (hA : fin_ D m 120 [root D m] = none → ∀ e' M' cs' cl', snS t mq e M cs cl e' M' cs' cl' → M' mq 7 = 0 → M' t 0 = 1 → Q 0 e' M')
    (hB : ∀ evs nd pi, ∀ e' M' cs' cl', snS t mq e M cs cl e' M' cs' cl' → M' mq 7 = 0 → stT D t m M' nd pi evs → Q 1 e' M') : C_Bu_stands e (d + 8) mq M Q := by
  have srf : snS t mq e M cs cl e M cs cl := ⟨hP, yLe.rf, rmC_refl, fun _ _ _ _ _ _ _ _ _ => rfl, fun _ _ => rfl⟩
  refine c_Bu_stands (c_Bu_stands_0 hs hq ⟨h7, fun z => ?_, fun z => ?_⟩)
  · refine s_begin (d := d + 1) (t := t) hw hwb hM hno hs hP hC hq hmt h99 hm (fun e1 M1 cs1 cl1 hb => ⟨hb.1.2.1, ?_⟩)
    have hv := iv_start hw hwt hM hU hb
    obtain ⟨⟨k1, k2, k3⟩, r1, r2, r3, r4, ⟨-, s1, -, -, s4⟩, -, -, s6, r8, -⟩ := hb
    have hs1 := hs.le k2
    have hq1 := hq.le k2
    have lmq : mq + 17 < e.1 := hq.2.1
    have c59 := hs.1
    have f3 : M1 (mq + 3) = M (mq + 3) := r1 (mq + 3) (by omega) (by omega) (by omega) (by omega) (by omega) (by omega) (by omega) (by omega) (by omega) (by omega) (nC_a (a3_3 hq) (by decide))
    have fl : ∀ j, j < 29 → ¬ isC e j → M1 j = M j := fun j y1 y2 => r1 j (by omega) (by omega) (by omega) (by omega) (by omega) (by omega) (by omega) (by omega) (by omega) (by omega) y2
    have hC1 : pCl M1 D := pCl_cg (fl 19 (by decide) (nC_19 hs)) (fl 21 (by decide) (nC_21 hs)) (fl 24 (by decide) (nC_24 hs)) hC
    have hY1 : tCl M1 D := tCl_cg (fl 2 (by decide) (nC_o (t := 17) (hs.2 (2, 17, 0) (List.mem_of_getElem? (i := 1) rfl) (by decide)))) (fl 3 (by decide) (nC_a (caa_3 hs) (by decide))) (fl 4 (by decide) (nC_a (caa_4 hs) (by decide))) (fl 5 (by decide) (nC_a (caa_5 hs) (by decide))) hY
    have hT1 : hTr e1 M1 t := ⟨by rw [← hmt]; exact hq1.2.2.2.2.2.2.2, r4, by omega⟩
    have hfx : fxT D t mq m e1 M1 := ⟨hs1, hq1, h99, hmt, hT1, hC1, hY1, r3, fun r r0 r1 => by rw [f3]; exact hg r r0 r1⟩
    have hgo : goT D t m e1 M1 cs1 cl1 e1 M1 [] [0] := ⟨cs1, cl1, _, _, lpS_refl k1, hv, r8, fun _ => D 75 m, s6, fun i i0 i1 => ⟨by rw [s4]; exact Int.le_refl _, fun q q0 q1 => q1⟩, fun x x0 x1 => by omega⟩
    have fin : ∀ (e' : yE) (M' : xM) (cs' cl' : Nat), lpS t e1 M1 cs1 cl1 e' M' cs' cl' → snS t mq e M cs cl e' (xup M' mq 7 0) cs' cl' ∧ xup M' mq 7 0 mq 7 = 0 ∧ ∀ j, j ≠ mq → xup M' mq 7 0 j = M' j := by
      intro e' M' cs' cl' hl
      obtain ⟨l1, l2, l3, l4, l5⟩ := hl
      have hq' := hq1.le l2
      obtain ⟨a4, b4, -⟩ := hpC_up (k := mq) (i := 7) (v := 0) l1.1 (nC_o hq'.2.2.1) (by omega) (by omega)
      refine ⟨⟨⟨a4, l1.2⟩, k2.tr l2, rmC_trans k3 l3, fun j y1 y2 y3 y4 y5 y6 y7 y8 => ?_, fun x hx => ?_⟩, xrs, fun j hj => xrd hj⟩
      · rw [xrd y2, l4 j (Nat.lt_of_lt_of_le y1 k2.1) y3 y4 y5 y6 y7 (nC_le k2 y1 y8)]
        exact r1 j y1 y3 y4 y5 (fun z => y6 (by omega)) (fun z => y6 (by omega)) (fun z => y6 (by omega)) (fun z => y6 (by omega)) (fun z => y6 (by omega)) (fun z => y7 (by omega)) y8
      · rw [xri hx, l4 mq (by have := hq1.2.1; omega) (by omega) (by omega) (by omega) (by omega) (by omega) (nC_o hq1.2.2.1)]
        rw [r1 mq (by omega) (by omega) (by omega) (by omega) (by omega) (by omega) (by omega) (by omega) (by omega) (by omega) (nC_o hq.2.2.1)]
    refine s_lpS (d := d + 1) hw hwt hwb hfx (fun e' M' hle ho => ?_) (fun e' M' evs hle ho => ?_) 120 e1 M1 [] [0] rfl yLe.rf hgo
    · obtain ⟨cs', cl', hl, h0, hn, -⟩ := ho
      obtain ⟨f1, f2, f3⟩ := fin e' M' cs' cl' hl
      exact hA hn e' _ cs' cl' f1 f2 (by rw [f3 t (by omega)]; exact h0)
    · obtain ⟨cs', cl', nd, pi, hl, hv, -, hpa⟩ := ho
      obtain ⟨f1, f2, f3⟩ := fin e' M' cs' cl' hl
      exact hB evs nd pi e' _ cs' cl' f1 f2 (stT_cg (fun j y1 y2 => f3 j (by omega)) (iv_stT hv hpa))
  · have z0 : M mq 7 = 0 := Classical.not_not.mp z
    rw [hmt]
    rcases ht z0 with ⟨h1, h2⟩ | ⟨nd, pi, evs, h⟩
    · rw [h1]
      exact ⟨⟨by omega, by omega⟩, fun _ => hA h2 e M cs cl srf z0 h1, fun y => absurd (by decide) y⟩
    · rw [h.2.1.1]
      exact ⟨⟨by omega, by omega⟩, fun y => absurd rfl y, fun _ => hB evs nd pi e M cs cl srf z0 h⟩
end CTT
