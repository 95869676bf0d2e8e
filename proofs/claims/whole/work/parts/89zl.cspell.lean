/-! ===== the class: markWay ===== -/
section CMW
variable {D : xM} {t : Nat} {e : yE} {d : Nat}
theorem xx_nn {x : Int} (h0 : 0 ≤ x) (h1 : x < 8) : xxor32 x (-1) = -x - 1 := by
  have : x = 0 ∨ x = 1 ∨ x = 2 ∨ x = 3 ∨ x = 4 ∨ x = 5 ∨ x = 6 ∨ x = 7 := by omega
  rcases this with z | z | z | z | z | z | z | z <;> subst z <;> decide
theorem xx_ng {x : Int} (h0 : 0 ≤ x) (h1 : x < 8) : xxor32 (-x - 1) (-1) = x := by
  have : x = 0 ∨ x = 1 ∨ x = 2 ∨ x = 3 ∨ x = 4 ∨ x = 5 ∨ x = 6 ∨ x = 7 := by omega
  rcases this with z | z | z | z | z | z | z | z <;> subst z <;> decide
theorem s_mk15 {M : xM} {Q : xM → Prop} (hs : CSh e) (ht : XSh6 t e) (h99 : 99 < t) (h1 : M t 1 ≤ 120) (h0 : M (t + 6) 0 = -1) (hp : ∀ x, 0 < x → x < M t 1 → (0 ≤ M (t + 6) x ∧ M (t + 6) x < x) ∧ rg (M (t + 3) (M (t + 6) x)) ∧ (M (t + 3) (M (t + 6) x) = 0 → 0 ≤ M (t + 5) (M (t + 6) x) ∧ M (t + 5) (M (t + 6) x) < 360)) : ∀ (n : Nat) (x2 x3 : Int) (M1 : xM), x2 < (n : Int) → (0 ≤ x2 ∧ x2 < M t 1) → (0 ≤ x3 ∧ x2 + x3 < 120) → (∀ j, j ≠ 56 → M1 j = M j) → (∀ M', (∀ j, j ≠ 56 → M' j = M j) → (∀ p, M' 56 p = if mkP t M n x2 p ≠ -1 then mkP t M n x2 p else M1 56 p) → Q M') → C_Te_markWay_15 e d t x2 x3 M1 Q := by
  intro n
  induction n with
  | zero => intro x2 x3 M1 h _; omega
  | succ n ih =>
    intro x2 x3 M1 hn hx hx3 hf h
    have g : ∀ j, j ≠ 56 → M1 j = M j := hf
    have e6 : M1 (t + 6) = M (t + 6) := g _ (by omega)
    have e3 : M1 (t + 3) = M (t + 3) := g _ (by omega)
    have e5 : M1 (t + 5) = M (t + 5) := g _ (by omega)
    refine c_Te_markWay_15 hs ht ⟨⟨by omega, by omega⟩, fun z => absurd z (by omega), fun _ => ⟨by omega, ?_⟩⟩
    rw [e6, e3, e5]
    by_cases hz : x2 = 0
    · subst hz
      refine ⟨by rw [h0]; exact ⟨by omega, by omega⟩, fun _ => h M1 hf (fun p => ?_), fun z => absurd h0 z⟩
      have : mkP t M (n + 1) 0 p = -1 := by
        show (if M (t + 6) 0 = -1 then _ else _) = _
        rw [if_pos h0]
      rw [this, if_neg (fun u => u rfl)]
    · obtain ⟨q1, q2, q3⟩ := hp x2 (by omega) hx.2
      have hmk : ∀ p, mkP t M (n + 1) x2 p = if mkP t M n (M (t + 6) x2) p ≠ -1 then mkP t M n (M (t + 6) x2) p else if M (t + 3) (M (t + 6) x2) = 0 ∧ p = M (t + 5) (M (t + 6) x2) then x2 else -1 := by
        intro p
        show (if M (t + 6) x2 = -1 then _ else _) = _
        rw [if_neg (by omega)]
      refine ⟨⟨by omega, by omega⟩, fun z => absurd z (by omega), fun _ => ⟨by omega, by omega, q2, fun z => ?_, fun z => ?_⟩⟩
      · refine ih (M (t + 6) x2) (x3 + 1) M1 (by omega) (by omega) (by omega) hf (fun M' k1 k2 => h M' k1 (fun p => ?_))
        have e1 : mkP t M (n + 1) x2 p = mkP t M n (M (t + 6) x2) p := by
          rw [hmk p]
          by_cases u : mkP t M n (M (t + 6) x2) p ≠ -1
          · rw [if_pos u]
          · rw [if_neg u, if_neg (show ¬ (M (t + 3) (M (t + 6) x2) = 0 ∧ p = M (t + 5) (M (t + 6) x2)) from fun v => z v.1)]
            exact (Classical.not_not.mp u).symm
        rw [e1]; exact k2 p
      · have z0 : M (t + 3) (M (t + 6) x2) = 0 := Classical.not_not.mp z
        refine ⟨by omega, q3 z0, fun M2 e2 => ?_⟩
        refine ih (M (t + 6) x2) (x3 + 1) M2 (by omega) (by omega) (by omega) (fun j hj => by rw [e2, xrd hj]; exact hf j hj) (fun M' k1 k2 => h M' k1 (fun p => ?_))
        rw [k2 p]
        by_cases u : mkP t M n (M (t + 6) x2) p ≠ -1
        · have e1 : mkP t M (n + 1) x2 p = mkP t M n (M (t + 6) x2) p := by rw [hmk p, if_pos u]
          rw [e1]; rw [if_pos u, if_pos u]
        · rw [if_neg u]
          by_cases v : p = M (t + 5) (M (t + 6) x2)
          · have e1 : mkP t M (n + 1) x2 p = x2 := by rw [hmk p, if_neg u, if_pos ⟨z0, v⟩]
            rw [e1, if_pos (by omega), e2, v, xrs]
          · have e1 : mkP t M (n + 1) x2 p = -1 := by rw [hmk p, if_neg u, if_neg (fun w => v w.2)]
            rw [e1, if_neg (fun w => w rfl), e2, xri v]
theorem s_markWay {M : xM} {Q : xM → Prop} (hs : CSh e) (ht : XSh6 t e) (h99 : 99 < t) (h1 : M t 1 ≤ 120) (h0 : M (t + 6) 0 = -1) (hp : ∀ x, 0 < x → x < M t 1 → (0 ≤ M (t + 6) x ∧ M (t + 6) x < x) ∧ rg (M (t + 3) (M (t + 6) x)) ∧ (M (t + 3) (M (t + 6) x) = 0 → 0 ≤ M (t + 5) (M (t + 6) x) ∧ M (t + 5) (M (t + 6) x) < 360)) (h3 : 0 ≤ M t 3 ∧ M t 3 < M t 1) (h : ∀ M', (∀ j, j ≠ 56 → M' j = M j) → (∀ p, 0 ≤ p → p < 360 → M' 56 p = mkP t M 120 (M t 3) p) → Q M') : C_Te_markWay e (d + 2) t M Q := by
  refine c_Te_markWay (c_Te_markWay_0 hs ht (s_fill (d := d) (n := 360) hs (caa_56 hs) (by decide) (fun M1 g1 g2 => ?_)))
  rw [g1 t (by omega)]
  refine s_mk15 (M := M) hs ht h99 h1 h0 hp 120 (M t 3) 0 M1 (by omega) h3 (by omega) g1 (fun M' k1 k2 => h M' k1 (fun p p0 p1 => ?_))
  rw [k2 p, g2 p p0 (by omega)]
  by_cases u : mkP t M 120 (M t 3) p ≠ -1
  · rw [if_pos u]
  · rw [if_neg u]; exact (Classical.not_not.mp u).symm
/-- how many parts -/
theorem s_partsOf {M : xM} {ty k : Int} {Q : Int → xM → Prop} (hs : CSh e) (hwt : wfT D) (hY : tCl M D) (h1 : 0 ≤ ty ∧ ty < D 59 1) (hr : rg k) (hk : ty ≠ 0 → 0 ≤ k ∧ k < D 60 ty) (h : Q (nPs D ty k) M) : C_Ty_partsOf e (d + 3) ty k M Q := by
  have h8 := hwt.1
  have e0 : M 2 0 = D 59 1 := hY.1
  have e3 : M 3 ty = D 60 ty := hY.2.1 ty h1.1 (by omega)
  have h6 := hwt.2.1 ty h1.1 (by omega)
  have key : ∀ Q' : Int → xM → Prop, Q' (bI (ty ≠ 0)) M → C_Ty_isMaker e (d + 2) ty k M Q' := by
    intro Q' hQ
    refine c_Ty_isMaker (c_Ty_isMaker_0 hs (c_Ty_isType (c_Ty_isType_0 hs ⟨⟨by omega, by omega⟩, fun z => absurd z (by omega), fun _ => ⟨⟨⟨by omega, by omega⟩, by rw [e0]; exact ⟨by omega, by omega⟩⟩, fun z => absurd z (by rw [e0]; omega), fun _ => ⟨⟨by omega, by omega⟩, fun z => absurd z (by decide), fun _ => ⟨hr, fun z => ?_, fun z => ⟨by omega, ⟨hr, by rw [e3]; exact ⟨by omega, by omega⟩⟩, fun y => ?_, fun y => ?_⟩⟩⟩⟩⟩)))
    · by_cases u : ty = 0
      · rw [bI_f (fun v => v u)] at hQ; exact hQ
      · have := hk u; omega
    · rw [e3] at y
      by_cases u : ty = 0
      · rw [bI_f (fun v => v u)] at hQ; exact hQ
      · have := hk u; omega
    · rw [e3] at y
      by_cases u : ty = 0
      · have := hwt.2.2.1; rw [u] at y; omega
      · rw [bI_t u] at hQ; exact hQ
  refine c_Ty_partsOf (c_Ty_partsOf_0 hs (key _ ⟨bI_rg, fun z => ?_, fun z => ?_⟩))
  · have u : ty = 0 := Classical.not_not.mp (bI_0.mp z)
    have e1 : nPs D ty k = 0 := by unfold nPs; rw [if_pos u]
    rw [e1] at h; exact h
  · have u : ty ≠ 0 := Classical.not_not.mp (fun w => z (bI_0.mpr w))
    have hk' := hk u
    have e1 : nPs D ty k = D 61 (6 * ty + k) := by unfold nPs; rw [if_neg u]
    refine ⟨by omega, ?_⟩
    rw [(hY.2.2 ty k h1.1 h1.2 hk'.1 hk'.2).1, ← e1]; exact h
end CMW
