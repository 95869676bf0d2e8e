/-! ===== the class: the judge's rows ===== -/
section CJV
variable {D : xM} {e : yE} {m r : Int} {mq : Nat}
theorem s_allFit {d a3 n3 : Nat} {va : Int → Int} {M : xM} {Q : Int → xM → Prop} (hs : CSh e) (hw : wfP D) (ht : wfT D) (hv : wfVl D) (hb : wfB D) (hM : wfM D m) (hU : wfU D m) (hd : 100 ≤ d) (hq : XSh3 mq e) (h99 : 99 < mq) (ha : yA e a3 1 n3) (hn3 : n3 = 3) (ha5 : a3 ≠ 52) (r0 : 0 ≤ r) (r1 : r < D 77 m) (hva : vaO D m va) (hg : ∀ q, 0 ≤ q → q < D 75 m → M a3 q = va q) (hC : pCl M D) (hN : pCn M D) (hV : vCl M D) (hm : mCl M mq D m)
    (h1 : mR D m va r → ∀ M', (∀ j, j ≠ 52 → M' j = M j) → (∀ a k, 0 ≤ a → a < 16 → 0 ≤ k → k < D 75 m → nmb D (rpt D m r k) a → M' 52 a = nR D m va r a) → Q 1 M')
    (h0 : ¬ mR D m va r → ∀ M', (∀ j, j ≠ 52 → M' j = M j) → Q 0 M') : C_Ju_allFit e d mq r a3 n3 M Q := by
  obtain ⟨d, rfl⟩ : ∃ d', d = d' + 1 := ⟨d - 1, by omega⟩
  have h75 := hM.2.1
  have h77 := hM.2.2.1
  have cols : ∀ (n x : Nat) (M1 : xM), (x : Int) + n = D 75 m → (∀ j, j ≠ 52 → M1 j = M j) → (∀ k, 0 ≤ k → k < (x : Int) → mF D (rpt D m r k) (va k) = true) → (∀ a k, 0 ≤ a → a < 16 → 0 ≤ k → k < (x : Int) → nmb D (rpt D m r k) a → M1 52 a = nRc D m va r a x) → C_Ju_allFit_3 e d mq a3 n3 r x M1 Q := by
    intro n
    induction n with
    | zero =>
      intro x M1 hx g1 g2 g3
      have e0 : M1 mq 0 = D 75 m := by rw [g1 mq (by omega)]; exact hm.1
      have hmR : mR D m va r := fun k k0 k1 => g2 k k0 (by omega)
      refine c_Ju_allFit_3 hs hq ha ⟨⟨⟨by omega, by omega⟩, by rw [e0]; exact ⟨by omega, by omega⟩⟩, fun _ => h1 hmR M1 g1 (fun a k a0 a1 k0 k1 hk => ?_), fun z => absurd (by rw [e0]; omega) z⟩
      rw [g3 a k a0 a1 k0 (by omega) hk]; unfold nR; rw [show (D 75 m).toNat = x by omega]
    | succ n ih =>
      intro x M1 hx g1 g2 g3
      have e0 : M1 mq 0 = D 75 m := by rw [g1 mq (by omega)]; exact hm.1
      obtain ⟨v1, v2⟩ := vaO_v (r := r) (k := x) hM hva r0 r1 (by omega) (by omega)
      obtain ⟨hC1, hN1, hV1⟩ := pcv_52 g1 hC hN hV
      have hw1 := (hw.2 _ v1).2.1
      obtain ⟨d', rfl⟩ : ∃ d', d = d' + 1 := ⟨d - 1, by omega⟩
      refine c_Ju_allFit_3 hs hq ha ⟨⟨⟨by omega, by omega⟩, by rw [e0]; exact ⟨by omega, by omega⟩⟩, fun z => absurd z (by rw [e0]; omega), fun _ => c_Ma_patternOf (c_Ma_patternOf_0 hs hq ⟨by omega, ⟨by omega, ?_⟩⟩)⟩
      rw [show M1 (mq + 2) (r * 3 + x) = rpt D m r x by rw [g1 (mq + 2) (by omega)]; exact hm.2.2.2 r x r0 r1 (by omega) (by omega), show M1 a3 x = va x by rw [g1 a3 ha5]; exact hg x (by omega) (by omega)]
      refine s_fits hs hw ht hv hb 40 (d' + 1) (rpt D m r x) (va x) 0 M1 _ (by omega) v1 hw1.2 v2 (by omega) hC1 hN1 hV1 (fun M3 hM3 => ?_)
      obtain ⟨m1, m2, m3⟩ := hM3
      have m1' : ∀ j, j ≠ 52 → M3 j = M j := fun j hj => by rw [m1 j hj, g1 j hj]
      refine ⟨bI_rg, fun z => ?_, fun z => ?_⟩
      · have hmt : mF D (rpt D m r x) (va x) = true := Classical.not_not.mp (fun w => z (bI_0.mpr w))
        refine ih (x + 1) M3 (by omega) m1' (fun k k0 k1 => ?_) (fun a k a0 a1 k0 k1 hk => ?_)
        · by_cases w : k = x
          · rw [w]; exact hmt
          · exact g2 k k0 (by omega)
        · show M3 52 a = if xand32 (xshr32 (D 73 (rpt D m r x)) a) 1 = 1 then nvF D (rpt D m r x) (va x) a else nRc D m va r a x
          by_cases w : nmb D (rpt D m r x) a
          · rw [m3 hmt a a0 a1 w]; exact (if_pos w).symm
          · have hkx : k ≠ x := fun y => w (by rw [← y]; exact hk)
            rw [m2 a a0 a1 w, g3 a k a0 a1 k0 (by omega) hk]; exact (if_neg w).symm
      · have hmf : ¬ mF D (rpt D m r x) (va x) = true := bI_0.mp (Classical.not_not.mp z)
        exact h0 (fun w => hmf (w x (by omega) (by omega))) M3 m1'
  exact c_Ju_allFit (c_Ju_allFit_0 hs hq ha (cols (D 75 m).toNat 0 M (by omega) (fun _ _ => rfl) (fun k k0 k1 => by omega) (fun a k _ _ k0 k1 => by omega)))
/-- the row that the patterns alone choose -/
theorem s_rowFor {d a3 n3 : Nat} {va : Int → Int} {M : xM} {Q : Int → xM → Prop} (hs : CSh e) (hw : wfP D) (ht : wfT D) (hv : wfVl D) (hb : wfB D) (hM : wfM D m) (hU : wfU D m) (hG : wfG D m) (hd : 101 ≤ d) (hq : XSh3 mq e) (h99 : 99 < mq) (ha : yA e a3 1 n3) (hn3 : n3 = 3) (ha5 : a3 ≠ 52) (hva : vaO D m va) (hg : ∀ q, 0 ≤ q → q < D 75 m → M a3 q = va q) (hC : pCl M D) (hN : pCn M D) (hV : vCl M D) (hm : mCl M mq D m) (hgC : gCl M mq D m) (hg1 : ∀ r, 0 ≤ r → r < 12 → D 79 (12 * m + r) = -1 ∨ (0 ≤ D 79 (12 * m + r) ∧ D 79 (12 * m + r) < 16))
    (h : ∀ M', (∀ j, j ≠ 52 → M' j = M j) → Q (out D m (D 75 m) (fun k => k) va (rtL D m (D 77 m).toNat)).1 M') : C_Ju_rowFor e d mq a3 n3 M Q := by
  obtain ⟨d, rfl⟩ : ∃ d', d = d' + 1 := ⟨d - 1, by omega⟩
  have h75 := hM.2.1
  have h77 := hM.2.2.1
  have key : ∀ (n x : Nat) (M1 : xM), (x : Int) + n = D 77 m → (∀ j, j ≠ 52 → M1 j = M j) → (∀ j, 0 ≤ j → j < (x : Int) → ¬ tkR D m va j) → C_Ju_rowFor_2 e d mq a3 n3 x M1 Q := by
    intro n
    induction n with
    | zero =>
      intro x M1 hx g1 g2
      have e2 : M1 mq 2 = D 77 m := by rw [g1 mq (by omega)]; exact hm.2.1
      have := h M1 g1
      rw [out_no hw ht hb hM hG hU (fun j j0 j1 => g2 j j0 (by omega))] at this
      exact c_Ju_rowFor_2 hs hq ha ⟨⟨⟨by omega, by omega⟩, by rw [e2]; exact ⟨by omega, by omega⟩⟩, fun _ => this, fun z => absurd (by rw [e2]; omega) z⟩
    | succ n ih =>
      intro x M1 hx g1 g2
      have e2 : M1 mq 2 = D 77 m := by rw [g1 mq (by omega)]; exact hm.2.1
      obtain ⟨hC1, hN1, hV1⟩ := pcv_52 g1 hC hN hV
      have hm1 : mCl M1 mq D m := by unfold mCl; rw [g1 mq (by omega), g1 (mq + 1) (by omega), g1 (mq + 2) (by omega)]; exact hm
      have next : ¬ tkR D m va x → ∀ M2, (∀ j, j ≠ 52 → M2 j = M1 j) → C_Ju_rowFor_2 e d mq a3 n3 ((x : Int) + 1) M2 Q := fun hno M2 k1 => ih (x + 1) M2 (by omega) (fun j hj => by rw [k1 j hj, g1 j hj]) (fun j j0 j1 => by
        by_cases w : j = x
        · rw [w]; exact hno
        · exact g2 j j0 (by omega))
      have take : tkR D m va x → ∀ M2, (∀ j, j ≠ 52 → M2 j = M1 j) → Q x M2 := fun hyes M2 k1 => by
        have := h M2 (fun j hj => by rw [k1 j hj, g1 j hj])
        rw [(out_rt hw ht hb hM hG hU (by omega) (by omega) hyes g2).1] at this
        exact this
      obtain ⟨d', rfl⟩ : ∃ d', d = d' + 1 := ⟨d - 1, by omega⟩
      refine c_Ju_rowFor_2 hs hq ha ⟨⟨⟨by omega, by omega⟩, by rw [e2]; exact ⟨by omega, by omega⟩⟩, fun z => absurd z (by rw [e2]; omega), fun _ => ?_⟩
      refine s_allFit (r := x) hs hw ht hv hb hM hU (by omega) hq h99 ha hn3 ha5 (by omega) (by omega) hva (fun q q0 q1 => by rw [g1 a3 ha5]; exact hg q q0 q1) hC1 hN1 hV1 hm1 (fun hmR M2 k1 k2 => ⟨⟨by omega, by omega⟩, fun z => absurd z (by decide), fun _ => ?_⟩) (fun hno M2 k1 => ⟨⟨by omega, by omega⟩, fun _ => next (fun w => hno w.1) M2 k1, fun z => absurd rfl z⟩)
      have x12 : 0 ≤ (x : Int) ∧ (x : Int) < 12 := by omega
      obtain ⟨q3, q4⟩ := hgC x x12.1 x12.2
      have e3 : M2 (mq + 3) x = D 79 (12 * m + x) := by rw [k1 (mq + 3) (by omega), g1 (mq + 3) (by omega)]; exact q3
      have e4 : M2 (mq + 4) x = D 80 (12 * m + x) := by rw [k1 (mq + 4) (by omega), g1 (mq + 4) (by omega)]; exact q4
      have gr := hg1 x x12.1 x12.2
      refine c_Ma_isGuarded (c_Ma_isGuarded_0 hs hq ⟨x12, ?_⟩)
      rw [e3]
      refine ⟨by rcases gr with z | z <;> exact ⟨by omega, by omega⟩, fun z => ⟨⟨by omega, by omega⟩, fun _ => take ⟨hmR, Or.inl (by omega)⟩ M2 k1, fun z => absurd rfl z⟩, fun z => ⟨⟨by omega, by omega⟩, fun z => absurd z (by decide), fun _ => ?_⟩⟩
      have hng : ¬ D 79 (12 * m + x) < 0 := by omega
      obtain ⟨l1, l2⟩ := nR_gd hw ht hv hb hM hG hU hva (by omega) (by omega) hng (Or.inl rfl) hmR
      obtain ⟨o1, o2⟩ := nR_gd hw ht hv hb hM hG hU hva (by omega) (by omega) hng (Or.inr rfl) hmR
      obtain ⟨-, k, ⟨kk0, kk1⟩, hk⟩ := hG x (by omega) (by omega) (by omega) _ (Or.inl rfl)
      obtain ⟨-, k', ⟨kk0', kk1'⟩, hk'⟩ := hG x (by omega) (by omega) (by omega) _ (Or.inr rfl)
      have n1 := k2 _ k l1.1 l1.2 kk0 kk1 hk
      have n2 := k2 _ k' o1.1 o1.2 kk0' kk1' hk'
      have h300 := hv.1.2
      have e11 : M2 11 = M 11 := by rw [k1 11 (by decide), g1 11 (by decide)]
      refine c_Ju_holds (c_Ju_holds_0 hs hq ?_)
      rw [e3, e4, n1, n2, e11, (hV _ l2.1 l2.2).1, (hV _ o2.1 o2.2).1]
      refine ⟨x12, l1, x12, o1, by omega, by omega, ⟨(hv.2 _ l2.1 l2.2).1, (hv.2 _ o2.1 o2.2).1⟩, fun y => ⟨⟨by omega, by omega⟩, fun _ => next (fun w => ?_) M2 k1, fun z => absurd rfl z⟩, fun y => ⟨⟨by omega, by omega⟩, fun z => absurd z (by decide), fun _ => take ⟨hmR, Or.inr (by omega)⟩ M2 k1⟩⟩
      rcases w.2 with w | w <;> omega
  exact c_Ju_rowFor (c_Ju_rowFor_0 hs hq ha (key (D 77 m).toNat 0 M (by omega) (fun _ _ => rfl) (fun j j0 j1 => by omega)))
end CJV
