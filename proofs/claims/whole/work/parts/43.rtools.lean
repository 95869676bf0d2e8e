/-! ===== tools: loops, reading through stores, what is left of a pattern and the names that it tells ===== -/
theorem xup_ap {M : xM} {k k' : Nat} {i j v : Int} : xup M k i v k' j = if k' = k ∧ j = i then v else M k' j := rfl
/-- a loop upwards -/
theorem for_up (P I : Int → xM → Prop) (n : Int) (hstep : ∀ k M, I k M → k < n → (∀ M', I (k + 1) M' → P (k + 1) M') → P k M) (hend : ∀ M, I n M → P n M) : ∀ k M, k ≤ n → I k M → P k M := by
  have key : ∀ (j : Nat) (k : Int) (M : xM), (n - k).toNat = j → k ≤ n → I k M → P k M := by
    intro j
    induction j with
    | zero =>
      intro k M hj hk hI
      have : k = n := by omega
      subst this
      exact hend M hI
    | succ j ih =>
      intro k M hj hk hI
      exact hstep k M hI (by omega) (fun M' hI' => ih (k + 1) M' (by omega) (by omega) hI')
  intro k M hk hI
  exact key _ k M rfl hk hI
/-- a loop downwards -/
theorem for_dn (P I : Int → xM → Prop) (n : Int) (hstep : ∀ k M, I k M → n < k → (∀ M', I (k - 1) M' → P (k - 1) M') → P k M) (hend : ∀ M, I n M → P n M) : ∀ k M, n ≤ k → I k M → P k M := by
  have key : ∀ (j : Nat) (k : Int) (M : xM), (k - n).toNat = j → n ≤ k → I k M → P k M := by
    intro j
    induction j with
    | zero =>
      intro k M hj hk hI
      have : k = n := by omega
      subst this
      exact hend M hI
    | succ j ih =>
      intro k M hj hk hI
      exact hstep k M hI (by omega) (fun M' hI' => ih (k - 1) M' (by omega) (by omega) hI')
  intro k M hk hI
  exact key _ k M rfl hk hI
theorem xi2s_small {x : Int} (h0 : -1 ≤ x) (h1 : x < 300) : xi2s x = x := by
  have h : ∀ n : Fin 301, xi2s ((n.val : Int) - 1) = (n.val : Int) - 1 := by decide +kernel
  have h2 := h ⟨(x + 1).toNat, by omega⟩
  have h3 : (((x + 1).toNat : Nat) : Int) - 1 = x := by omega
  simp only [h3] at h2
  exact h2
def uf (f : Int → Int) (q v : Int) : Int → Int := fun x => if x = q then v else f x
/-- what is left of a pattern when its names are told: -1 for ANY -/
def lft (D : xM) : Nat → Int → Int
  | 0, _ => -1
  | n + 1, p => if p < 0 then -1 else if D 68 p = 3 then lft D n (D 71 (3 * p)) else if D 68 p = 0 then -1 else p
/-- the names that it tells -/
def tld (D : xM) : Nat → Int → Int → Bool
  | 0, _, _ => false
  | n + 1, p, a => if p < 0 then false else if D 68 p = 3 then (D 70 p == a) || tld D n (D 71 (3 * p)) a else if D 68 p = 0 then D 70 p == a else false
/-- the parts of a pattern -/
def prt (D : xM) (p j : Int) : Int := D 71 (3 * p + j)
/-- p is a pattern -/
def isP (D : xM) (p : Int) : Prop := 0 ≤ p ∧ p < D 59 18
/-- how many parts a made pattern has -/
def pct (D : xM) (p : Int) : Int := D 61 (6 * D 69 p + D 70 p)
/-- the patterns are in order -/
def wfP (D : xM) : Prop := (0 ≤ D 59 18 ∧ D 59 18 ≤ 300) ∧ ∀ p, isP D p →
  (0 ≤ D 69 p ∧ D 69 p < D 59 1) ∧ (1 ≤ D 72 p ∧ D 72 p ≤ 40) ∧ rg (D 70 p) ∧ (0 ≤ D 68 p ∧ D 68 p ≤ 4) ∧
  (D 68 p = 0 → -1 ≤ D 70 p ∧ D 70 p < 16) ∧
  (D 68 p = 1 → D 69 p = 0) ∧
  (D 68 p = 2 → (0 ≤ D 70 p ∧ D 70 p < D 60 (D 69 p)) ∧ 0 < D 69 p ∧ (∀ j, 0 ≤ j → j < pct D p → isP D (prt D p j) ∧ prt D p j < p ∧ D 69 (prt D p j) = D 62 (3 * (6 * D 69 p + D 70 p) + j)) ∧ D 72 p = 1 + sm3 (D 72) (pct D p) (prt D p 0) (prt D p 1) (prt D p 2)) ∧
  (D 68 p = 3 → (0 ≤ D 70 p ∧ D 70 p < 16) ∧ isP D (prt D p 0) ∧ prt D p 0 < p ∧ D 69 (prt D p 0) = D 69 p ∧ D 72 p = 1 + D 72 (prt D p 0)) ∧
  (D 68 p = 4 → (∀ j, 0 ≤ j → j < 2 → isP D (prt D p j) ∧ prt D p j < p ∧ D 69 (prt D p j) = D 69 p) ∧ D 72 p = 1 + (D 72 (prt D p 0) + D 72 (prt D p 1)))
theorem prt_0 {D : xM} {p : Int} : D 71 (3 * p) = prt D p 0 := by unfold prt; rw [show 3 * p + 0 = 3 * p by omega]
theorem lft_fuel {D : xM} (hw : wfP D) : ∀ (n k : Nat) (p : Int), isP D p → D 72 p ≤ (n : Int) → D 72 p ≤ (k : Int) → lft D n p = lft D k p := by
  intro n
  induction n with
  | zero => intro k p hp h1 h2; have := (hw.2 p hp).2.1; omega
  | succ n ih =>
    intro k p hp h1 h2
    obtain ⟨k, rfl⟩ : ∃ j, k = j + 1 := ⟨k - 1, by have := (hw.2 p hp).2.1; omega⟩
    unfold lft
    by_cases h3 : D 68 p = 3
    · rw [if_pos h3, if_pos h3, prt_0 (D := D) (p := p)]
      obtain ⟨-, a, -, -, b⟩ := (hw.2 p hp).2.2.2.2.2.2.2.1 h3
      rw [ih k (prt D p 0) a (by omega) (by omega)]
    · rw [if_neg h3, if_neg h3]
theorem tld_fuel {D : xM} (hw : wfP D) : ∀ (n k : Nat) (p a : Int), isP D p → D 72 p ≤ (n : Int) → D 72 p ≤ (k : Int) → tld D n p a = tld D k p a := by
  intro n
  induction n with
  | zero => intro k p x hp h1 h2; have := (hw.2 p hp).2.1; omega
  | succ n ih =>
    intro k p x hp h1 h2
    obtain ⟨k, rfl⟩ : ∃ j, k = j + 1 := ⟨k - 1, by have := (hw.2 p hp).2.1; omega⟩
    unfold tld
    by_cases h3 : D 68 p = 3
    · rw [if_pos h3, if_pos h3, prt_0 (D := D) (p := p)]
      obtain ⟨-, a, -, -, b⟩ := (hw.2 p hp).2.2.2.2.2.2.2.1 h3
      rw [ih k (prt D p 0) x a (by omega) (by omega)]
    · rw [if_neg h3, if_neg h3]
def lF (D : xM) (p : Int) : Int := lft D 41 p
def tF (D : xM) (p a : Int) : Bool := tld D 41 p a
theorem lF_neg {D : xM} {p : Int} (h : p < 0) : lF D p = -1 := by unfold lF lft; rw [if_pos h]
theorem tF_neg {D : xM} {p a : Int} (h : p < 0) : tF D p a = false := by unfold tF tld; rw [if_pos h]
theorem lF_3 {D : xM} {p : Int} (hw : wfP D) (hp : isP D p) (h : D 68 p = 3) : lF D p = lF D (prt D p 0) := by
  obtain ⟨-, a, -, -, b⟩ := (hw.2 p hp).2.2.2.2.2.2.2.1 h
  have := (hw.2 p hp).2.1
  have e : lF D p = lft D 40 (prt D p 0) := by
    unfold lF
    rw [lft, if_neg (by have := hp.1; omega), if_pos h, prt_0 (D := D) (p := p)]
  rw [e]
  exact lft_fuel hw 40 41 _ a (by omega) (by omega)
theorem tF_3 {D : xM} {p a : Int} (hw : wfP D) (hp : isP D p) (h : D 68 p = 3) : tF D p a = ((D 70 p == a) || tF D (prt D p 0) a) := by
  obtain ⟨-, b, -, -, c⟩ := (hw.2 p hp).2.2.2.2.2.2.2.1 h
  have := (hw.2 p hp).2.1
  have e : tF D p a = ((D 70 p == a) || tld D 40 (prt D p 0) a) := by
    unfold tF
    rw [tld, if_neg (by have := hp.1; omega), if_pos h, prt_0 (D := D) (p := p)]
  rw [e, tld_fuel hw 40 41 _ a b (by omega) (by omega)]
  rfl
theorem lF_0 {D : xM} {p : Int} (hp : isP D p) (h : D 68 p = 0) : lF D p = -1 := by
  unfold lF
  rw [lft, if_neg (by have := hp.1; omega), if_neg (by omega), if_pos h]
theorem tF_0 {D : xM} {p a : Int} (hp : isP D p) (h : D 68 p = 0) : tF D p a = (D 70 p == a) := by
  unfold tF
  rw [tld, if_neg (by have := hp.1; omega), if_neg (by omega), if_pos h]
theorem lF_o {D : xM} {p : Int} (hp : isP D p) (h0 : D 68 p ≠ 0) (h3 : D 68 p ≠ 3) : lF D p = p := by
  unfold lF
  rw [lft, if_neg (by have := hp.1; omega), if_neg h3, if_neg h0]
theorem tF_o {D : xM} {p a : Int} (hp : isP D p) (h0 : D 68 p ≠ 0) (h3 : D 68 p ≠ 3) : tF D p a = false := by
  unfold tF
  rw [tld, if_neg (by have := hp.1; omega), if_neg h3, if_neg h0]
/-- what is left is ANY, or a pattern that is neither ANY nor ALSO, of the same type, and no larger -/
theorem lF_is {D : xM} (hw : wfP D) : ∀ (n : Nat) (p : Int), isP D p → D 72 p ≤ (n : Int) → lF D p = -1 ∨ (isP D (lF D p) ∧ D 68 (lF D p) ≠ 0 ∧ D 68 (lF D p) ≠ 3 ∧ D 69 (lF D p) = D 69 p ∧ D 72 (lF D p) ≤ D 72 p) := by
  intro n
  induction n with
  | zero => intro p hp h; have := (hw.2 p hp).2.1; omega
  | succ n ih =>
    intro p hp h
    by_cases h3 : D 68 p = 3
    · obtain ⟨-, a, -, t, b⟩ := (hw.2 p hp).2.2.2.2.2.2.2.1 h3
      rw [lF_3 hw hp h3]
      rcases ih (prt D p 0) a (by omega) with h1 | ⟨h1, h2, h4, h5, h6⟩
      · exact Or.inl h1
      · exact Or.inr ⟨h1, h2, h4, by omega, by omega⟩
    · by_cases h0 : D 68 p = 0
      · exact Or.inl (lF_0 hp h0)
      · rw [lF_o hp h0 h3]
        exact Or.inr ⟨hp, h0, h3, rfl, Int.le_refl _⟩
theorem lF_rg {D : xM} (hw : wfP D) {p : Int} (hp : isP D p ∨ p = -1) : lF D p = -1 ∨ (isP D (lF D p) ∧ D 68 (lF D p) ≠ 0 ∧ D 68 (lF D p) ≠ 3) := by
  rcases hp with hp | hp
  · rcases lF_is hw 40 p hp (hw.2 p hp).2.1.2 with h | h
    · exact Or.inl h
    · exact Or.inr ⟨h.1, h.2.1, h.2.2.1⟩
  · exact Or.inl (lF_neg (by omega))
