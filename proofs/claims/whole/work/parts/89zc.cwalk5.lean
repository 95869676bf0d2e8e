/-! ===== the class: follow(), whole ===== -/
section CWO
variable {D : xM} {d : Nat} {e : yE} {k mq a2 n2 : Nat} {m : Int} {nd : Int → aN} {pi : Int → Int → Int}
theorem s_wclear {M : xM} {Q : xM → Prop} (hs : CSh e) (hk : XSh8 k e) (h48 : k = 45 ∨ k = 48) (h : ∀ M', (∀ j, j ≠ k → j ≠ k + 1 → M' j = M j) → (∀ x, x ≠ 2 → x ≠ 3 → M' k x = M k x) → M' k 2 = 0 → M' k 3 = 0 → (∀ a, 0 ≤ a → a < 16 → M' (k + 1) a = -1) → Q M') : C_Wa_clear e (d + 2) k M Q := by
  refine c_Wa_clear (c_Wa_clear_0 hs hk (s_fill (d := d) (n := 16) hs (a8_1 hk) (by decide) (fun M1 g1 g2 M2 e2 M3 e3 => ?_)))
  refine h M3 (fun j y1 y2 => by rw [e3, xrd y1, e2, xrd y1]; exact g1 j y2) (fun x y1 y2 => by rw [e3, xri y2, e2, xri y1, g1 k (by omega)]) (by rw [e3, xri (by decide), e2, xrs]) (by rw [e3, xrs]) (fun a a0 a1 => ?_)
  rw [e3, xrd (show k + 1 ≠ k by omega), e2, xrd (show k + 1 ≠ k by omega)]
  exact g2 a a0 a1
/-- a walk through a tree that stands -/
theorem s_follow {M : xM} {va : Int → Int} {evs : List aV} {Q : Int → xM → Prop} (hg : wOK D) (hM : wfM D m) (hs : CSh e) (hk : XSh8 k e) (h48 : k = 45 ∨ k = 48) (hq : XSh3 mq e) (h99 : 99 < mq) (ha : yA e a2 1 n2) (hak : a2 = 58) (hn2 : n2 = 3) (hT : stT D (mq + 5) m M nd pi evs) (hV : vCl M D) (hG : gCl M mq D m) (h0 : M mq 0 = D 75 m) (hrI : ∀ r ∈ rtL D m (D 77 m).toNat, rI D m (D 75 m) r) (hgv : ∀ q, 0 ≤ q → q < D 75 m → M a2 q = va q) (hval : valOK D (D 75 m) (E0 D m) va)
    (h : ∀ M', (∀ j, j ≠ k → j ≠ k + 1 → j ≠ k + 2 → M' j = M j) → (∀ x, x ≠ 2 → x ≠ 3 → M' k x = M k x) → M' k 2 = (wk D m 120 (root D m) va).1 → M' k 3 = (wk D m 120 (root D m) va).2.1 → (∀ a, 0 ≤ a → a < 16 → M' (k + 1) a = (wk D m 120 (root D m) va).2.2.2 a) → Q (wk D m 120 (root D m) va).2.2.1 M') : C_Wa_follow e (d + 4) k mq a2 n2 M Q := by
  have h75 := hM.2.1
  refine c_Wa_follow (c_Wa_follow_0 hs hk hq ha (s_wclear (d := d + 1) hs hk h48 (fun M1 g1 g2 g3 g4 g5 => ?_)))
  have e0 : M1 mq 0 = D 75 m := by rw [g1 mq (by omega) (by omega)]; exact h0
  rw [e0]
  refine ⟨⟨by omega, ⟨by omega, by omega, by omega, by omega, by omega⟩, by omega, by decide⟩, fun M2 e2 => ?_⟩
  have f2 : ∀ j, j ≠ k + 2 → M2 j = M1 j := fun j hj => by
    funext x; rw [e2]; unfold xcpy; rw [if_neg (fun z => hj z.1)]
  have c2 : ∀ q, 0 ≤ q → q < D 75 m → M2 (k + 2) q = va q := fun q q0 q1 => by
    rw [e2]; unfold xcpy; rw [if_pos ⟨rfl, q0, by omega⟩, show (0 : Int) + (q - 0) = q by omega, g1 a2 (by omega) (by omega)]
    exact hgv q q0 q1
  have fm : ∀ j, j ≠ k → j ≠ k + 1 → j ≠ k + 2 → M2 j = M j := fun j y1 y2 y3 => by rw [f2 j y3, g1 j y1 y2]
  have hnd0 := hT.2.2.2.1
  have hfin := hT.1
  have hw : root D m = (D 75 m, fun k => k, D 75 m, E0 D m, rtL D m (D 77 m).toNat) := rfl
  have hI : wyI D k mq m M2 nd pi 0 va := by
    refine ⟨⟨evs, stT_cg (fun j y1 y2 => fm j (by omega) (by omega) (by omega)) hT⟩, vCl_cg (fm 11 (by omega) (by omega) (by omega)) (fm 13 (by omega) (by omega) (by omega)) (fm 14 (by omega) (by omega) (by omega)) hV, gCl_cg (fm _ (by omega) (by omega) (by omega)) (fm _ (by omega) (by omega) (by omega)) hG, ⟨Int.le_refl _, by rw [fm (mq + 5) (by omega) (by omega) (by omega)]; have := hT.2.1.2.1; omega⟩, ?_, ?_, ?_, fun a a0 a1 => by rw [f2 (k + 1) (by omega)]; exact g5 a a0 a1⟩
    · rw [hnd0.1]; exact hrI
    · rw [hnd0.1]; exact hval
    · rw [hnd0.1, hnd0.2]; exact c2
  have := s_fol29 (d := d) (a2 := a2) (n2 := n2) hg hs hk h48 hq h99 ha 120 120 0 0 va [] M2 Q (Nat.le_refl _) (Nat.le_refl _) (by rw [hnd0.1, hfin]; intro z; cases z) hI (fun M' hM' => ?_)
  · exact this
  · rw [hnd0.1] at hM' ⊢
    obtain ⟨u1, u2, u3, u4, u5⟩ := hM'
    have fk := f2 k (by omega)
    exact h M' (fun j y1 y2 y3 => by rw [u1 j y1 y2 y3, fm j y1 y2 y3]) (fun x y1 y2 => by rw [u2 x y1 y2, fk, g2 x y1 y2]) (by rw [u3, fk, g3, Int.zero_add]) (by rw [u4, fk, g4, Int.zero_add]) u5
end CWO
