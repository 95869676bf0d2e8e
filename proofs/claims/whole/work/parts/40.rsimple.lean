/-! ===== the reference's small methods ===== -/
def bI (p : Prop) [Decidable p] : Int := if p then 1 else 0
theorem bI_t {p : Prop} [Decidable p] (h : p) : bI p = 1 := if_pos h
theorem bI_f {p : Prop} [Decidable p] (h : ¬ p) : bI p = 0 := if_neg h
theorem bI_0 {p : Prop} [Decidable p] : bI p = 0 ↔ ¬ p := by
  unfold bI; by_cases h : p <;> simp [h]
theorem bI_rg {p : Prop} [Decidable p] : rg (bI p) := by
  unfold bI rg; split <;> decide
theorem bI_01 {p : Prop} [Decidable p] : bI p = 0 ∨ bI p = 1 := by
  unfold bI; split <;> simp
theorem rgn {x : Int} {n : Int} (h0 : 0 ≤ x) (h1 : x ≤ n) (hn : n ≤ 2147483647 := by decide) : rg x := ⟨by omega, by omega⟩
section RSI
variable {e : yE} {d : Nat} {M : xM} {x0 x1 x2 x3 x4 x5 : Int}
theorem s_isType {Q : Int → xM → Prop} (hs : RSh e) (h1 : rg x1) (h2 : rg (M 59 1)) (h : Q (bI (0 ≤ x1 ∧ x1 < M 59 1)) M) : R_isType e (d + 1) x1 M Q := by
  refine t_isType (t_isType_0 hs ⟨h1, fun c => ?_, fun c => ⟨⟨h1, h2⟩, fun c2 => ?_, fun c2 => ?_⟩⟩)
  · rw [bI_f (by omega)] at h; exact h
  · rw [bI_f (by omega)] at h; exact h
  · rw [bI_t (by omega)] at h; exact h
theorem s_isName {Q : Int → xM → Prop} (h1 : rg x0) (h : Q (bI (0 ≤ x0 ∧ x0 < 16)) M) : R_isName e (d + 1) x0 M Q := by
  refine t_isName (t_isName_0 ⟨h1, fun c => ?_, fun c => ⟨h1, fun c2 => ?_, fun c2 => ?_⟩⟩)
  · rw [bI_f (by omega)] at h; exact h
  · rw [bI_f (by omega)] at h; exact h
  · rw [bI_t (by omega)] at h; exact h
theorem s_isPattern {Q : Int → xM → Prop} (hs : RSh e) (h1 : rg x1) (h2 : rg (M 59 18)) (h : Q (bI (0 ≤ x1 ∧ x1 < M 59 18)) M) : R_isPattern e (d + 1) x1 M Q := by
  refine t_isPattern (t_isPattern_0 hs ⟨h1, fun c => ?_, fun c => ⟨⟨h1, h2⟩, fun c2 => ?_, fun c2 => ?_⟩⟩)
  · rw [bI_f (by omega)] at h; exact h
  · rw [bI_f (by omega)] at h; exact h
  · rw [bI_t (by omega)] at h; exact h
theorem s_isMatch {Q : Int → xM → Prop} (hs : RSh e) (h1 : rg x1) (h2 : rg (M 59 25)) (h : Q (bI (0 ≤ x1 ∧ x1 < M 59 25)) M) : R_isMatch e (d + 1) x1 M Q := by
  refine t_isMatch (t_isMatch_0 hs ⟨h1, fun c => ?_, fun c => ⟨⟨h1, h2⟩, fun c2 => ?_, fun c2 => ?_⟩⟩)
  · rw [bI_f (by omega)] at h; exact h
  · rw [bI_f (by omega)] at h; exact h
  · rw [bI_t (by omega)] at h; exact h
theorem s_isValueOf {Q : Int → xM → Prop} (hs : RSh e) (h1 : rg x1) (hx : rg x2) (h2 : 0 ≤ M 59 10 ∧ M 59 10 ≤ 300) (h3 : ∀ i, 0 ≤ i → i < M 59 10 → rg (M 64 i)) (h : Q (bI (0 ≤ x1 ∧ x1 < M 59 10 ∧ M 64 x1 = x2)) M) : R_isValueOf e (d + 1) x1 x2 M Q := by
  refine t_isValueOf (t_isValueOf_0 hs ⟨h1, fun c => ?_, fun c => ⟨⟨h1, rgn h2.1 h2.2⟩, fun c2 => ?_, fun c2 => ⟨by omega, ⟨h3 x1 (by omega) (by omega), hx⟩, fun c3 => ?_, fun c3 => ?_⟩⟩⟩)
  · rw [bI_f (by omega)] at h; exact h
  · rw [bI_f (by omega)] at h; exact h
  · rw [bI_f (by omega)] at h; exact h
  · rw [bI_t (by omega)] at h; exact h
theorem s_countOf {Q : Int → xM → Prop} (hs : RSh e) (h1 : 0 ≤ 6 * x1 + x2 ∧ 6 * x1 + x2 < 48) (h : Q (M 61 (6 * x1 + x2)) M) : R_countOf e (d + 1) x1 x2 M Q := t_countOf (t_countOf_0 hs ⟨h1, h⟩)
theorem s_partType {Q : Int → xM → Prop} (hs : RSh e) (h1 : 0 ≤ 3 * (6 * x1 + x2) + x3 ∧ 3 * (6 * x1 + x2) + x3 < 144) (h : Q (M 62 (3 * (6 * x1 + x2) + x3)) M) : R_partType e (d + 1) x1 x2 x3 M Q := t_partType (t_partType_0 hs ⟨h1, h⟩)
def pk3 (k a b c : Int) : Int := if k = 0 then a else if k = 1 then b else c
theorem s_pick {Q : Int → xM → Prop} (h1 : rg x0) (h : Q (pk3 x0 x1 x2 x3) M) : R_pick e (d + 1) x0 x1 x2 x3 M Q := by
  unfold pk3 at h
  refine t_pick (t_pick_0 ⟨h1, fun c => ⟨h1, fun c2 => ?_, fun c2 => ?_⟩, fun c => ?_⟩)
  · rw [if_neg c, if_neg c2] at h; exact h
  · rw [if_neg c, if_pos (Classical.not_not.mp c2)] at h; exact h
  · rw [if_pos (Classical.not_not.mp c)] at h; exact h
theorem s_isMaker {Q : Int → xM → Prop} (hs : RSh e) (h1 : rg x1) (hx : rg x2) (h2 : 0 ≤ M 59 1 ∧ M 59 1 ≤ 8) (h3 : ∀ t, 0 ≤ t → t < M 59 1 → rg (M 60 t)) (h : Q (bI (0 ≤ x1 ∧ x1 < M 59 1 ∧ 0 ≤ x2 ∧ x2 < M 60 x1)) M) : R_isMaker e (d + 2) x1 x2 M Q := by
  refine t_isMaker (t_isMaker_0 hs (s_isType hs h1 (rgn h2.1 h2.2) ⟨bI_rg, fun c => ?_, fun c => ⟨hx, fun c2 => ?_, fun c2 => ?_⟩⟩))
  · rw [bI_0] at c
    rw [bI_f (by omega)] at h; exact h
  · rw [bI_f (by omega)] at h; exact h
  · have c1 := fun q => c (bI_0.mpr q)
    have c1 : 0 ≤ x1 ∧ x1 < M 59 1 := Classical.not_not.mp c1
    refine ⟨by omega, ⟨hx, h3 x1 c1.1 c1.2⟩, fun c3 => ?_, fun c3 => ?_⟩
    · rw [bI_f (by omega)] at h; exact h
    · rw [bI_t (by omega)] at h; exact h
end RSI
