/-! ===== the class: follow(), its loop ===== -/
section CWM
variable {D : xM} {d : Nat} {e : yE} {k mq a2 n2 : Nat} {m : Int} {nd : Int → aN} {pi : Int → Int → Int}
theorem s_f100 {M : xM} {i : Int} {r : aR} {va π : Int → Int} {np : Int} {Q : Int → xM → Prop} (hs : CSh e) (hk : XSh8 k e) (h48 : k = 45 ∨ k = 48) (hq : XSh3 mq e) (h99 : 99 < mq) (ha : yA e a2 1 n2) (hi : 0 ≤ i ∧ i < 120) (hrow : M (mq + 9) i = r.1) (hnm : ∀ x, 0 ≤ x → x < 16 → M (mq + 17) (i * 16 + x) = if r.2.2 x < 0 then -1 else π (r.2.2 x)) (hr : ∀ a, 0 ≤ a → a < 16 → r.2.2 a = -1 ∨ (0 ≤ r.2.2 a ∧ r.2.2 a < np)) (hpi : ∀ q, 0 ≤ q → q < np → 0 ≤ π q ∧ π q < 360) (hva : ∀ q, 0 ≤ q → q < np → M (k + 2) (π q) = va q) (h0 : ∀ a, 0 ≤ a → a < 16 → M (k + 1) a = -1)
    (h : ∀ M', (∀ j, j ≠ k + 1 → M' j = M j) → (∀ a, 0 ≤ a → a < 16 → M' (k + 1) a = nmv va r a) → Q r.1 M') : C_Wa_follow_100 e (d + 2) k mq a2 n2 i M Q := by
  refine c_Wa_follow_100 hs hk hq ha (s_bind (d := d) (pl := fun x => if r.2.2 x < 0 then -1 else π (r.2.2 x)) hs hk h48 hq.2.2.2.2.2.2.2 (by omega) hi (fun x x0 x1 => ⟨hnm x x0 x1, ?_⟩) (fun M' g1 g2 => ⟨hi, ?_⟩))
  · rcases hr x x0 x1 with z | z
    · left; show (if r.2.2 x < 0 then (-1 : Int) else π (r.2.2 x)) = -1; rw [if_pos (by omega)]
    · right
      have := hpi _ z.1 z.2
      show 0 ≤ (if r.2.2 x < 0 then (-1 : Int) else π (r.2.2 x)) ∧ (if r.2.2 x < 0 then (-1 : Int) else π (r.2.2 x)) < 360
      rw [if_neg (by omega)]; exact this
  · rw [g1 (mq + 9) (by omega), hrow]
    refine h M' g1 (fun a a0 a1 => ?_)
    rw [g2 a a0 a1]
    unfold nmv
    rcases hr a a0 a1 with z | z
    · rw [if_pos (show (if r.2.2 a < 0 then (-1 : Int) else π (r.2.2 a)) = -1 by rw [if_pos (by omega)]), if_pos (by omega)]
      exact h0 a a0 a1
    · have := hpi _ z.1 z.2
      have e1 : (if r.2.2 a < 0 then (-1 : Int) else π (r.2.2 a)) = π (r.2.2 a) := if_neg (by omega)
      show (if (if r.2.2 a < 0 then (-1 : Int) else π (r.2.2 a)) = -1 then _ else M (k + 2) (if r.2.2 a < 0 then (-1 : Int) else π (r.2.2 a))) = _
      rw [e1, if_neg (by omega), if_neg (by omega)]
      exact hva _ z.1 z.2
theorem vCl_cg {M M' : xM} (h11 : M' 11 = M 11) (h13 : M' 13 = M 13) (h14 : M' 14 = M 14) (h : vCl M D) : vCl M' D := by
  unfold vCl; rw [h11, h13, h14]; exact h
theorem gCl_cg {M M' : xM} (h3 : M' (mq + 3) = M (mq + 3)) (h4 : M' (mq + 4) = M (mq + 4)) (h : gCl M mq D m) : gCl M' mq D m := by
  unfold gCl; rw [h3, h4]; exact h
/-- what holds on the way, at node i -/
def wyI (D : xM) (k mq : Nat) (m : Int) (M : xM) (nd : Int → aN) (pi : Int → Int → Int) (i : Int) (va : Int → Int) : Prop :=
  (∃ evs, stT D (mq + 5) m M nd pi evs) ∧ vCl M D ∧ gCl M mq D m ∧ (0 ≤ i ∧ i < M (mq + 5) 1) ∧ (∀ r ∈ (nd i).2.2.2.2, rI D m (nd i).1 r) ∧ valOK D (nd i).2.2.1 (nd i).2.2.2.1 va ∧ (∀ q, 0 ≤ q → q < (nd i).2.2.1 → M (k + 2) (pi i q) = va q) ∧ ∀ a, 0 ≤ a → a < 16 → M (k + 1) a = -1
/-- what a walk leaves -/
def wyO (k : Nat) (w : Int × Int × Int × (Int → Int)) (M M' : xM) : Prop := (∀ j, j ≠ k → j ≠ k + 1 → j ≠ k + 2 → M' j = M j) ∧ (∀ x, x ≠ 2 → x ≠ 3 → M' k x = M k x) ∧ M' k 2 = M k 2 + w.1 ∧ M' k 3 = M k 3 + w.2.1 ∧ ∀ a, 0 ≤ a → a < 16 → M' (k + 1) a = w.2.2.2 a
theorem wy_all {M M' : xM} {i : Int} {va : Int → Int} (h48 : k = 45 ∨ k = 48) (h99 : 99 < mq) (hf : ∀ j, j ≠ k → j ≠ k + 2 → M' j = M j) (h : wyI D k mq m M nd pi i va) : (∃ evs, stT D (mq + 5) m M' nd pi evs) ∧ vCl M' D ∧ gCl M' mq D m ∧ M' (mq + 5) 1 = M (mq + 5) 1 ∧ ∀ a, 0 ≤ a → a < 16 → M' (k + 1) a = -1 := by
  obtain ⟨⟨evs, h1⟩, h2, h3, h4, -, -, -, h8⟩ := h
  exact ⟨⟨evs, stT_cg (fun j y1 y2 => hf j (by omega) (by omega)) h1⟩, vCl_cg (hf 11 (by omega) (by omega)) (hf 13 (by omega) (by omega)) (hf 14 (by omega) (by omega)) h2, gCl_cg (hf _ (by omega) (by omega)) (hf _ (by omega) (by omega)) h3, by rw [hf (mq + 5) (by omega) (by omega)], fun a a0 a1 => by rw [hf (k + 1) (by omega) (by omega)]; exact h8 a a0 a1⟩
/-- the values at the places of a branch -/
theorem wy_br {M M' : xM} {f c q0 kk ty np : Int} {va π : Int → Int} {o : Bool} (hc : bMn D ty kk o = c) (hc0 : 0 ≤ c) (hpO : piO (piN π np f) (np + c) (M (mq + 5) 4)) (hnp : 0 ≤ np) (hv0 : 0 ≤ q0 ∧ q0 < D 59 10) (hvc : c ≤ vpc D q0) (hV : vCl M D) (hva : ∀ q, 0 ≤ q → q < np → M (k + 2) (π q) = va q) (h2 : ∀ y, M' (k + 2) y = if f ≤ y ∧ y < f + c then M 14 (q0 * 3 + (y - f)) else M (k + 2) y) : ∀ q, 0 ≤ q → q < np + c → M' (k + 2) (piN π np f q) = if np ≤ q then D 66 (3 * q0 + (q - np)) else va q := by
  intro q y0 y1
  rw [h2]
  by_cases z : q < np
  · have e1 : piN π np f q = π q := by unfold piN; rw [if_pos z]
    rw [if_neg (show ¬ np ≤ q by omega), if_neg, e1]
    · exact hva q y0 z
    · intro y
      have e2 : piN π np f (np + (piN π np f q - f)) = piN π np f q := by
        show (if np + (piN π np f q - f) < np then _ else f + (np + (piN π np f q - f) - np)) = _
        rw [if_neg (by omega)]; omega
      have := hpO.2 _ _ (by omega) (by omega) y0 y1 e2
      omega
  · have e1 : piN π np f q = f + (q - np) := by unfold piN; rw [if_neg z]
    rw [if_pos (show np ≤ q by omega), e1, if_pos (by omega), show f + (q - np) - f = q - np by omega]
    exact (hV q0 hv0.1 hv0.2).2.2 (q - np) (by omega) (by omega)
end CWM
