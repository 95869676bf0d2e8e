/-! ===== the reference's values ===== -/
theorem xrd {M : xM} {k k' : Nat} {i v : Int} (h : k' ≠ k) : xup M k i v k' = M k' := by funext j; simp [xup, h]
theorem xrs {M : xM} {k : Nat} {i v : Int} : xup M k i v k i = v := by simp [xup]
theorem xri {M : xM} {k : Nat} {i j v : Int} (h : j ≠ i) : xup M k i v k j = M k j := by simp [xup, h]
section RVA
variable {e : yE} {d : Nat} {M : xM} {x1 x2 x3 x4 x5 x6 : Int}
/-- a value comes behind the others -/
def rvPush (M : xM) (t h s : Int) : xM := xup (xup (xup (xup M 64 (M 59 10) t) 65 (M 59 10) h) 67 (M 59 10) s) 59 10 (M 59 10 + 1)
theorem s_addValue {Q : Int → xM → Prop} (hs : RSh e) (hv : 0 ≤ M 59 10 ∧ M 59 10 < 300) (h : Q (M 59 10) (rvPush M x1 x2 x3)) : R_addValue e (d + 1) x1 x2 x3 M Q := by
  refine t_addValue (t_addValue_0 hs ⟨hv, fun M1 e1 => ?_⟩)
  have f1 : M1 59 10 = M 59 10 := by rw [e1, xrd (by decide)]
  rw [f1]
  refine ⟨hv, fun M2 e2 => ?_⟩
  have f2 : M2 59 10 = M 59 10 := by rw [e2, xrd (by decide), f1]
  rw [f2]
  refine ⟨hv, fun M3 e3 => fun M4 e4 => ?_⟩
  have f3 : M3 59 10 = M 59 10 := by rw [e3, xrd (by decide), f2]
  rw [f3] at e4
  have f4 : M4 59 10 = M 59 10 + 1 := by rw [e4, xrs]
  rw [f4, e4, e3, e2, e1]
  rw [show M 59 10 + 1 - 1 = M 59 10 by omega]
  exact h
theorem s_number {Q : Int → xM → Prop} (hs : RSh e) (hv : 0 ≤ M 59 10 ∧ M 59 10 ≤ 300) (h0 : M 59 10 = 300 → Q (-1) (xup M 59 0 0)) (h1 : M 59 10 < 300 → Q (M 59 10) (rvPush (xup M 59 0 0) 0 x1 1)) : R_number e (d + 2) x1 M Q := by
  refine t_number (t_number_0 hs fun M1 e1 => ?_)
  have f1 : M1 59 10 = M 59 10 := by rw [e1, xri (by decide)]
  rw [f1]
  refine ⟨rgn hv.1 hv.2, fun c => ?_, fun c => ?_⟩
  · refine s_addValue hs (by omega) ?_
    rw [f1, e1]
    exact h1 (by omega)
  · rw [e1]
    exact h0 (by omega)
theorem s_check {Q : Int → xM → Prop} (hs : RSh e) (h : Q 1 (xup M 59 0 0)) : R_check e (d + 1) M Q := t_check (t_check_0 hs fun M1 e1 => e1 ▸ h)
theorem s_type {Q : Int → xM → Prop} (hs : RSh e) (hv : 0 ≤ M 59 1 ∧ M 59 1 ≤ 8) (h0 : M 59 1 = 8 → Q (-1) (xup M 59 0 0)) (h1 : M 59 1 < 8 → Q (M 59 1) (xup (xup M 59 0 0) 59 1 (M 59 1 + 1))) : R_type e (d + 1) M Q := by
  refine t_type (t_type_0 hs fun M1 e1 => ?_)
  have f1 : M1 59 1 = M 59 1 := by rw [e1, xri (by decide)]
  rw [f1]
  refine ⟨rgn hv.1 hv.2, fun c => fun M2 e2 => ?_, fun c => ?_⟩
  · have f2 : M2 59 1 = M 59 1 + 1 := by rw [e2, xrs]
    rw [f2, e2, e1, show M 59 1 + 1 - 1 = M 59 1 by omega]
    exact h1 (by omega)
  · rw [e1]
    exact h0 (by omega)
theorem s_took {Q : Int → xM → Prop} (hs : RSh e) (hx : rg x1) (h : Q (if 0 ≤ x1 ∧ x1 < 18 then M 81 x1 else -1) (xup M 59 0 0)) : R_took e (d + 1) x1 M Q := by
  refine t_took (t_took_0 hs fun M1 e1 => ⟨hx, fun c => ?_, fun c => ⟨hx, fun c2 => ?_, fun c2 => ⟨by omega, ?_⟩⟩⟩)
  · rw [if_neg (by omega)] at h; rw [e1]; exact h
  · rw [if_neg (by omega)] at h; rw [e1]; exact h
  · rw [if_pos (by omega)] at h
    rw [show M1 81 x1 = M 81 x1 by rw [e1, xrd (by decide)], e1]; exact h
theorem s_part {Q : Int → xM → Prop} (hs : RSh e) (hx : rg x1) (hm : 0 ≤ M 59 55 ∧ M 59 55 ≤ 4000) (h : Q (if 0 ≤ x1 ∧ x1 < M 59 55 then M 99 x1 else -1) (xup M 59 0 0)) : R_part e (d + 1) x1 M Q := by
  refine t_part (t_part_0 hs fun M1 e1 => ?_)
  have f1 : M1 59 55 = M 59 55 := by rw [e1, xri (by decide)]
  rw [f1]
  refine ⟨hx, fun c => ?_, fun c => ⟨⟨hx, rgn hm.1 hm.2⟩, fun c2 => ?_, fun c2 => ⟨by omega, ?_⟩⟩⟩
  · rw [if_neg (by omega)] at h; rw [e1]; exact h
  · rw [if_neg (by omega)] at h; rw [e1]; exact h
  · rw [if_pos (by omega)] at h
    rw [show M1 99 x1 = M 99 x1 by rw [e1, xrd (by decide)], e1]; exact h
theorem s_plain {Q : Int → xM → Prop} (hs : RSh e) (hx : rg x1) (hm : 0 ≤ M 59 1 ∧ M 59 1 ≤ 8) (h : Q (if 0 ≤ x1 ∧ x1 < M 59 1 then M 63 x1 else -1) (xup M 59 0 0)) : R_plain e (d + 2) x1 M Q := by
  refine t_plain (t_plain_0 hs fun M1 e1 => ?_)
  have f1 : M1 59 1 = M 59 1 := by rw [e1, xri (by decide)]
  refine s_isType hs hx (by rw [f1]; exact rgn hm.1 hm.2) ?_
  rw [f1]
  refine ⟨bI_rg, fun c => ?_, fun c => ?_⟩
  · rw [bI_0] at c
    rw [if_neg c] at h; rw [e1]; exact h
  · have c1 : 0 ≤ x1 ∧ x1 < M 59 1 := Classical.not_not.mp (fun q => c (bI_0.mpr q))
    rw [if_pos c1] at h
    refine ⟨by omega, ?_⟩
    rw [show M1 63 x1 = M 63 x1 by rw [e1, xrd (by decide)], e1]; exact h
end RVA
