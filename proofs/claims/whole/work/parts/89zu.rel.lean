/-! ===== class and reference side by side ===== -/
/-- the type of what a name of a pattern stands for -/
def tyN (D : xM) : Nat → Int → Int → Int
  | 0, _, _ => -1
  | n + 1, p, a => if D 68 p = 0 then (if D 70 p = a then D 69 p else -1) else if D 68 p = 1 then -1 else if D 68 p = 3 then (if D 70 p = a then D 69 p else tyN D n (prt D p 0) a) else if D 68 p = 4 then tyN D n (prt D p 0) a else
      if 0 < pct D p ∧ xand32 (xshr32 (D 73 (prt D p 0)) a) 1 = 1 then tyN D n (prt D p 0) a else if 1 < pct D p ∧ xand32 (xshr32 (D 73 (prt D p 1)) a) 1 = 1 then tyN D n (prt D p 1) a else if 2 < pct D p ∧ xand32 (xshr32 (D 73 (prt D p 2)) a) 1 = 1 then tyN D n (prt D p 2) a else -1
/-- values and patterns: what else the class keeps of them -/
def tmR (C D : xM) : Prop := (C 8 0 = 100 ∧ ∀ v, 0 ≤ v → v < D 59 10 → C 12 v = D 67 v ∧ C 15 v = 0 ∧ C 17 v = 0) ∧ (C 18 0 = 40 ∧ C 18 1 = D 59 18 ∧ ∀ p, isP D p → C 20 p = D 69 p ∧ C 22 p = D 72 p ∧ C 25 p = D 73 p ∧ C 27 p = D 74 p ∧ (0 ≤ C 26 p ∧ C 26 p < 65536) ∧ (D 74 p = 0 → ∀ a, 0 ≤ a → a < 16 → (xand32 (xshr32 (C 26 p) a) 1 = 1 ↔ nmb D p a ∧ tyN D 41 p a = 0)))
/-- types: plain values, how many makers -/
def plC (C D : xM) : Prop := (∀ t, 0 ≤ t → t < 8 → C 6 t = D 63 t) ∧ C 7 0 = 0 ∧ (∀ t, 0 < t → t < D 59 1 → 0 < D 63 t → C 7 t = pMk D t) ∧ C 2 1 = D 60 0 + D 60 1 + D 60 2 + D 60 3 + D 60 4 + D 60 5 + D 60 6 + D 60 7
/-- what does not lie in a match -/
def stc (C D : xM) : Prop := pCl C D ∧ pCn C D ∧ tCl C D ∧ vCl C D ∧ vTy C D ∧ C 1 4 = D 59 25 ∧ tmR C D ∧ plC C D
/-- a match -/
def mtC (e : yE) (C D : xM) (x : Int) : Prop := ∃ mq : Nat, C 28 x = (mq : Int) ∧ XSh3 mq e ∧ 99 < mq ∧ mCl C mq D x ∧ gCl C mq D x ∧ (C mq 7 = 0 ∨ C mq 7 = 1) ∧ (C mq 7 = 0 → trO D (mq + 5) x C)
def dsj (C D : xM) : Prop := ∀ x y, 0 ≤ x → x < D 59 25 → 0 ≤ y → y < D 59 25 → x ≠ y → C 28 x + 17 < C 28 y ∨ C 28 y + 17 < C 28 x
def cRel (e : yE) (C D : xM) (cs cl : Nat) : Prop := CSh e ∧ RSh e ∧ hpP e C cs cl ∧ stc C D ∧ (∀ x, 0 ≤ x → x < D 59 25 → mtC e C D x) ∧ dsj C D ∧ (e.2.2 0).1 = 5
/-- the latest run, and what was told -/
def wkR (C D : xM) : Prop := (∀ a, 0 ≤ a → a < 16 → C 46 a = D 81 a) ∧ C 45 2 = D 81 16 ∧ C 45 3 = D 81 17 ∧ ∀ i, 0 ≤ i → i < 18 → rg (D 81 i)
def tlR (C D : xM) : Prop := ∃ q0 q1 : Nat, ((q0 = 54 ∧ q1 = 55) ∨ (q0 = 55 ∧ q1 = 54)) ∧ C 53 1 = (q0 : Int) ∧ C 53 2 = (q1 : Int) ∧ C 53 3 = D 59 55 ∧ (0 ≤ D 59 55 ∧ D 59 55 ≤ 4000) ∧ ∀ i, 0 ≤ i → i < D 59 55 → C q0 i = D 99 i ∧ rg (D 99 i)
section REL
variable {e : yE} {C C' D D' : xM} {cs cl : Nat}
theorem tyN_k (h : rKp D D') : ∀ (n : Nat) (p a : Int), tyN D' n p a = tyN D n p a := by
  intro n
  induction n with
  | zero => intro p a; rfl
  | succ n ih =>
    intro p a
    have g := fun c (hc : 59 < c ∧ c < 81) => h.1 c hc.1 hc.2
    unfold tyN pct prt
    rw [g 61 (by omega), g 68 (by omega), g 69 (by omega), g 70 (by omega), g 71 (by omega), g 73 (by omega)]
    simp only [ih]
theorem pMk_k (h : rKp D D') {t : Int} : pMk D' t = pMk D t := pMk_c (m := 0) (cng_K h)
theorem stc_k (hC : ∀ c, c ≤ 27 → C' c = C c) (h : rKp D D') (hs : stc C D) : stc C' D' := by
  have g := fun c (hc : 59 < c ∧ c < 81) => h.1 c hc.1 hc.2
  obtain ⟨-, e1, e10, e18, e25⟩ := h
  obtain ⟨s1, s2, s3, s4, s5, s6, s7, s8⟩ := hs
  have h' : rKp D D' := ⟨fun c c0 c1 => g c ⟨c0, c1⟩, e1, e10, e18, e25⟩
  have nb : ∀ p a, nmb D' p a ↔ nmb D p a := fun p a => by unfold nmb; rw [g 73 (by omega)]
  refine ⟨?_, ?_, ?_, ?_, ?_, ?_, ?_, ?_⟩
  · unfold pCl isP pct prt at *
    rw [hC 19 (by decide), hC 21 (by decide), hC 24 (by decide), g 61 (by omega), g 68 (by omega), g 69 (by omega), g 70 (by omega), g 71 (by omega), e18]; exact s1
  · unfold pCn isP pct at *
    rw [hC 23 (by decide), g 61 (by omega), g 68 (by omega), g 69 (by omega), g 70 (by omega), e18]; exact s2
  · unfold tCl at *
    rw [hC 2 (by decide), hC 3 (by decide), hC 4 (by decide), hC 5 (by decide), g 60 (by omega), g 61 (by omega), g 62 (by omega), e1]; exact s3
  · unfold vCl vpc at *
    rw [hC 11 (by decide), hC 13 (by decide), hC 14 (by decide), g 61 (by omega), g 64 (by omega), g 65 (by omega), g 66 (by omega), e10]; exact s4
  · unfold vTy at *
    rw [hC 8 (by decide), hC 10 (by decide), g 64 (by omega), e10]; exact s5
  · rw [hC 1 (by decide), e25]; exact s6
  · unfold tmR isP at *
    simp only [nb, tyN_k h']
    rw [hC 8 (by decide), hC 12 (by decide), hC 15 (by decide), hC 17 (by decide), hC 18 (by decide), hC 20 (by decide), hC 22 (by decide), hC 25 (by decide), hC 26 (by decide), hC 27 (by decide), g 67 (by omega), g 69 (by omega), g 72 (by omega), g 73 (by omega), g 74 (by omega), e10, e18]; exact s7
  · unfold plC at *
    simp only [pMk_k h']
    rw [hC 2 (by decide), hC 6 (by decide), hC 7 (by decide), g 60 (by omega), g 63 (by omega), e1]; exact s8
theorem mtC_k {x : Int} (hw : wfP D) (ht : wfT D) (hM : wfM D x) (h28 : C' 28 = C 28) (hC : ∀ mq : Nat, C 28 x = (mq : Int) → ∀ j, mq ≤ j → j ≤ mq + 17 → C' j = C j) (h : rKp D D') (hs : mtC e C D x) : mtC e C' D' x := by
  have g := fun c (hc : 59 < c ∧ c < 81) => h.1 c hc.1 hc.2
  obtain ⟨mq, h1, h2, h3, h4, h5, h6, h7⟩ := hs
  have k := hC mq h1
  refine ⟨mq, by rw [h28]; exact h1, h2, h3, ?_, ?_, by rw [k mq (by omega) (by omega)]; exact h6, fun z => ?_⟩
  · unfold mCl at *
    rw [k mq (by omega) (by omega), k (mq + 1) (by omega) (by omega), k (mq + 2) (by omega) (by omega), g 75 (by omega), g 76 (by omega), g 77 (by omega), g 78 (by omega)]; exact h4
  · unfold gCl at *
    rw [k (mq + 3) (by omega) (by omega), k (mq + 4) (by omega) (by omega), g 79 (by omega), g 80 (by omega)]; exact h5
  · rw [k mq (by omega) (by omega)] at z
    exact trO_c hw ht hM (cng_K h) (trO_cg (fun j y1 y2 => k j (by omega) (by omega)) (h7 z))
theorem nC_fix {j : Nat} (h : CSh e) (h0 : 0 < j) (h1 : j < 59) (h2 : ¬ (31 ≤ j ∧ j ≤ 33)) (h3 : ¬ (35 ≤ j ∧ j ≤ 37)) : ¬ isC e j := by
  have k1 : ∀ j, j < 59 → 0 < j → ¬ (31 ≤ j ∧ j ≤ 33) → ¬ (35 ≤ j ∧ j ≤ 37) → ∃ q ∈ CShT, q.1 = j := by decide
  have k2 : ∀ q ∈ CShT, q.2.2 % 256 ≠ 0 ∨ q.2.2 = 0 := by decide
  obtain ⟨q, hq, hj⟩ := k1 j h1 h0 h2 h3
  intro z
  have hs := h.2 q hq (by omega)
  rw [hj] at hs
  have z1 := z.2.1
  have z2 := z.2.2.1
  rw [hs] at z1 z2
  rcases k2 q hq with y | y <;> omega
/-- both sides changed where it does not matter -/
theorem cRel_k (hr : rOK D) (hC : ∀ c, (c ≤ 28 ∨ 99 < c ∨ (30 ≤ c ∧ c ≤ 37)) → C' c = C c) (h : rKp D D') (hs : cRel e C D cs cl) : cRel e C' D' cs cl := by
  obtain ⟨s1, s2, s3, s4, s5, s6, s7⟩ := hs
  have e25 := h.2.2.2.2
  refine ⟨s1, s2, ?_, stc_k (fun c hc => hC c (by omega)) h s4, fun x x0 x1 => ?_, ?_, s7⟩
  · obtain ⟨a, -, -⟩ := hpC_cg (M' := C') s3.1 (hC 30 (by omega)) (hC 34 (by omega)) (fun j hj => hC j (by
      have := hj.2.2.2
      by_cases w : j ≤ 28
      · exact Or.inl w
      · rcases this with z | z
        · by_cases w2 : 30 ≤ j ∧ j ≤ 37
          · exact Or.inr (Or.inr w2)
          · exact absurd hj (nC_fix s1 (by omega) z (by omega) (by omega))
        · exact Or.inr (Or.inl z)))
    exact ⟨a, s3.2⟩
  · rw [e25] at x1
    exact mtC_k hr.1.1 hr.1.2.1 (hr.2.2.1 x x0 x1).1.1 (hC 28 (by omega)) (fun mq hmq j y1 y2 => hC j (by
      obtain ⟨mq', h1, -, h3, -⟩ := s5 x x0 x1
      have : (mq : Int) = mq' := by rw [← hmq, h1]
      omega)) h (s5 x x0 x1)
  · unfold dsj at *
    rw [e25, hC 28 (by omega)]; exact s6
end REL
