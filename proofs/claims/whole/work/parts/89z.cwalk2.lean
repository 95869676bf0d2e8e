/-! ===== the class: follow() ===== -/
/-- guards as the class has them -/
def gCl (M : xM) (mq : Nat) (D : xM) (m : Int) : Prop := ∀ r, 0 ≤ r → r < 12 → M (mq + 3) r = D 79 (12 * m + r) ∧ M (mq + 4) r = D 80 (12 * m + r)
section CWL
variable {D : xM} {d : Nat} {e : yE} {k mq : Nat} {m : Int}
theorem s_asks {M : xM} {i rr la mo px py vx vy : Int} {Q : Int → xM → Prop} (hs : CSh e) (hk : XSh8 k e) (h48 : k = 45 ∨ k = 48) (hq : XSh3 mq e) (h99 : 99 < mq) (hi : 0 ≤ i ∧ i < 120) (hr : M (mq + 9) i = rr) (hrr : 0 ≤ rr ∧ rr < 12) (h3 : M (mq + 3) rr = la) (h4 : M (mq + 4) rr = mo) (hla : 0 ≤ la ∧ la < 16) (hmo : 0 ≤ mo ∧ mo < 16) (hpx : M (mq + 17) (i * 16 + la) = px) (hpy : M (mq + 17) (i * 16 + mo) = py) (hx : 0 ≤ px ∧ px < 360) (hy : 0 ≤ py ∧ py < 360) (hvx : M (k + 2) px = vx) (hvy : M (k + 2) py = vy) (hvx3 : 0 ≤ vx ∧ vx < 300) (hvy3 : 0 ≤ vy ∧ vy < 300) (rx : rg (M 11 vx)) (ry : rg (M 11 vy))
    (h : Q (bI (M 11 vx < M 11 vy)) (xup M k 3 (M k 3 + 1))) : C_Wa_asks e (d + 2) k mq i M Q := by
  refine c_Wa_asks (c_Wa_asks_0 hs hk hq (fun M1 e1 => ?_))
  have f : ∀ j, j ≠ k → M1 j = M j := fun j hj => by rw [e1, xrd hj]
  rw [← e1] at h
  rw [f (mq + 9) (by omega), f (mq + 3) (by omega), hr, h3]
  refine ⟨hi, hrr, s_plN hs hq.2.2.2.2.2.2.2 hi hla ⟨hrr, ?_⟩⟩
  rw [f (mq + 4) (by omega), h4]
  refine s_plN hs hq.2.2.2.2.2.2.2 hi hmo ?_
  rw [show M1 (mq + 5 + 12) (i * 16 + la) = px by rw [f (mq + 5 + 12) (by omega)]; exact hpx, show M1 (mq + 5 + 12) (i * 16 + mo) = py by rw [f (mq + 5 + 12) (by omega)]; exact hpy, f (k + 2) (by omega), f 11 (by omega), hvx, hvy]
  refine ⟨⟨by omega, by omega⟩, fun z => absurd z (by omega), fun _ => ⟨⟨by omega, by omega⟩, fun z => absurd z (by omega), fun _ => ⟨hx, hvx3, hy, hvy3, ⟨rx, ry⟩, fun z => ?_, fun z => ?_⟩⟩⟩
  · rw [bI_f (by omega)] at h; exact h
  · rw [bI_t (by omega)] at h; exact h
end CWL
