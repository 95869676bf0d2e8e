/-! ===== the class: the way to a node, marked ===== -/
/-- the branch on the way to a node at a place -/
def mkP (t : Nat) (M : xM) : Nat → Int → Int → Int
  | 0, _, _ => -1
  | n + 1, i, p => if M (t + 6) i = -1 then -1 else if mkP t M n (M (t + 6) i) p ≠ -1 then mkP t M n (M (t + 6) i) p else if M (t + 3) (M (t + 6) i) = 0 ∧ p = M (t + 5) (M (t + 6) i) then i else -1
/-- what is known of places, as the marks have it -/
def pbI (D : xM) (t : Nat) (M : xM) (a : aN) (π : Int → Int) (hi : Int) (B dp : Int → Int) : Prop :=
  (∀ q, 0 ≤ q → q < a.2.2.1 → (a.2.2.2.1 89 q = 0 ∧ B (π q) = -1) ∨ (a.2.2.2.1 89 q = 1 ∧ ∃ y, B (π q) = y ∧ (0 ≤ y ∧ y < M t 1) ∧ M (t + 9) y = a.2.2.2.1 90 q ∧ (0 ≤ M (t + 11) y ∧ M (t + 11) y + nPs D (a.2.2.2.1 88 q) (a.2.2.2.1 90 q) ≤ M t 4) ∧ (a.2.2.2.1 91 q = 0 ∨ a.2.2.2.1 91 q = 1) ∧ ((a.2.2.2.1 88 q ≠ 0 → 0 ≤ a.2.2.2.1 90 q ∧ a.2.2.2.1 90 q < D 60 (a.2.2.2.1 88 q)) ∧ rg (a.2.2.2.1 90 q)) ∧
    (a.2.2.2.1 91 q = 0 → ∀ k, 0 ≤ k → k < nPs D (a.2.2.2.1 88 q) (a.2.2.2.1 90 q) → (0 ≤ a.2.2.2.1 92 q + k ∧ a.2.2.2.1 92 q + k < a.2.2.1) ∧ M (t + 11) y + k = π (a.2.2.2.1 92 q + k) ∧ dp (a.2.2.2.1 92 q + k) = dp q + 1) ∧
    (a.2.2.2.1 91 q = 1 → ∀ k, 0 ≤ k → k < nPs D (a.2.2.2.1 88 q) (a.2.2.2.1 90 q) → B (M (t + 11) y + k) = -1 ∧ M (t + 2) (M (t + 11) y + k) = D 62 (3 * (6 * a.2.2.2.1 88 q + a.2.2.2.1 90 q) + k) ∧ M (t + 11) y + k < hi ∧ ∀ q', 0 ≤ q' → q' < a.2.2.1 → π q' ≠ M (t + 11) y + k))) ∧
  (∀ p, B p ≠ -1 → p < hi) ∧ (∀ q, 0 ≤ q → q < a.2.2.1 → (0 ≤ dp q ∧ dp q ≤ 40) ∧ (0 ≤ a.2.2.2.1 88 q ∧ a.2.2.2.1 88 q < D 59 1 ∧ 0 < D 63 (a.2.2.2.1 88 q))) ∧ ∀ r ∈ a.2.2.2.2, ∀ k, 0 ≤ k → k < a.1 → 0 ≤ r.2.1 k → dp (a.2.1 k) + D 72 (r.2.1 k) ≤ 40
section CMK
variable {D E : xM} {w np at_ : Int} {col : Int → Int} {dp : Int → Int}
theorem bEn_o {q m key i : Int} {oth : Bool} (hi : ¬ (np ≤ i ∧ i < np + m)) : bEn D E q np m key oth 89 i = (if i = q then 1 else E 89 i) ∧ bEn D E q np m key oth 90 i = (if i = q then key else E 90 i) ∧ bEn D E q np m key oth 91 i = (if i = q then (if oth = true then 1 else 0) else E 91 i) ∧ bEn D E q np m key oth 92 i = (if i = q then np else E 92 i) := by
  unfold bEn
  by_cases z : i = q
  · subst z
    simp [hi]
  · simp [hi, z]
theorem bEn_n {q m key i : Int} {oth : Bool} (hi : np ≤ i ∧ i < np + m) : bEn D E q np m key oth 89 i = 0 := by
  unfold bEn
  rw [if_neg (fun z => absurd z.1 (by decide)), if_pos ⟨rfl, hi⟩]
theorem lft_w (hw : wfP D) : ∀ (n : Nat) (p : Int), isP D p → 0 ≤ lft D n p → D 72 (lft D n p) ≤ D 72 p := by
  intro n
  induction n with
  | zero => intro p _ h; exact absurd (show (0 : Int) ≤ -1 from h) (by decide)
  | succ n ih =>
    intro p hp h
    have hp0 := hp.1
    unfold lft at h ⊢
    rw [if_neg (by omega)] at h ⊢
    by_cases h3 : D 68 p = 3
    · rw [if_pos h3] at h ⊢
      rw [prt_0 (D := D) (p := p)] at h ⊢
      obtain ⟨-, a2, -, -, a5⟩ := (hw.2 p hp).2.2.2.2.2.2.2.1 h3
      have := ih _ a2 h
      omega
    · rw [if_neg h3] at h ⊢
      by_cases h0 : D 68 p = 0
      · rw [if_pos h0] at h; exact absurd h (by decide)
      · rw [if_neg h0]; exact Int.le_refl _
/-- patterns and how deep their places lie -/
def dpR (D : xM) (w : Int) (col dp : Int → Int) (r : aR) : Prop := ∀ k, 0 ≤ k → k < w → 0 ≤ r.2.1 k → dp (col k) + D 72 (r.2.1 k) ≤ 40
theorem dpR_shp {rows rows' : List aR} (hw : wfP D) (hn : wfN D w col np E rows) (hd : ∀ r ∈ rows, dpR D w col dp r) (h : shp D w col rows = some (rows', at_)) : ∀ r ∈ rows', dpR D w col dp r := by
  have := shp_ok (P := fun r => okR D w col np E r ∧ dpR D w col dp r) hn.1.1 (fun r a j h0 h1 h2 h3 h4 h5 h6 => ⟨okR_spl hw hn.1 h0 h1 h2.1 h3 h4 h5 h6, fun k k0 k1 hk => ?_⟩) h (fun q hq => ⟨hn.2.1 q hq, hd q hq⟩) hn.2.2
  · exact fun r hr => (this.1 r hr).2
  · have hk' : 0 ≤ uf r.2.1 a (lF D (prt D (r.2.1 a) j)) k := hk
    show dp (col k) + D 72 (uf r.2.1 a (lF D (prt D (r.2.1 a) j)) k) ≤ 40
    unfold uf at hk' ⊢
    by_cases z : k = a
    · rw [if_pos z] at hk' ⊢
      have hp := okT_P h2.1.1 h0 h1 h3
      obtain ⟨b1, b2⟩ := (hw.2 _ hp).2.2.2.2.2.2.2.2 h4
      have p0 := (hw.2 _ (b1 0 (by omega) (by omega)).1).2.1
      have p1 := (hw.2 _ (b1 1 (by omega) (by omega)).1).2.1
      have pj := b1 j h5 h6
      have wl : D 72 (lF D (prt D (r.2.1 a) j)) ≤ D 72 (prt D (r.2.1 a) j) := lft_w hw 41 _ pj.1 hk'
      have := h2.2 a h0 h1 h3
      have hj : j = 0 ∨ j = 1 := by omega
      rw [z]
      rcases hj with y | y <;> subst y <;> omega
    · rw [if_neg z] at hk' ⊢
      exact h2.2 k k0 k1 hk'
theorem dpR_chB {rows : List aR} {key : Int} {oth : Bool} {mm : Int} {dp' : Int → Int} (hw : wfP D) (ht : wfT D) (hn : wfN D w col np E rows) (hd : ∀ r ∈ rows, dpR D w col dp r) (hat : 0 ≤ at_ ∧ at_ < w) (hne : ∀ q ∈ rows, ¬ (0 ≤ q.2.1 at_ ∧ D 68 (q.2.1 at_) = 4)) (hm : mm = bMn D (E 88 (col at_)) key oth) (hmr : 0 ≤ mm ∧ mm ≤ 3) (h1 : ∀ q, 0 ≤ q → q < np → dp' q = dp q) (h2 : ∀ j, 0 ≤ j → j < mm → dp' (np + j) = dp (col at_) + 1) : ∀ r ∈ bRs D np at_ mm key oth rows, dpR D (w - 1 + mm) (bCol col np at_ mm) dp' r := by
  intro r' hr'
  obtain ⟨r, hr, rfl, hin⟩ := bRs_mem rows hr'
  have ho := (hn.2.1 r hr).1
  intro k k0 k1 hk
  have hk' : 0 ≤ bCl D at_ mm r.2.1 k := hk
  show dp' (bCol col np at_ mm k) + D 72 (bCl D at_ mm r.2.1 k) ≤ 40
  unfold bCl at hk' ⊢
  unfold bCol
  by_cases z1 : k < at_
  · rw [if_pos z1] at hk'
    rw [if_pos z1, if_pos z1, h1 _ (hn.1.2.2.1 k k0 (by omega)).1.1 (hn.1.2.2.1 k k0 (by omega)).1.2]
    exact hd r hr k k0 (by omega) hk'
  · rw [if_neg z1] at hk'
    rw [if_neg z1, if_neg z1]
    by_cases z2 : k < at_ + mm
    · rw [if_pos z2] at hk'
      rw [if_pos z2, if_pos z2, h2 _ (by omega) (by omega)]
      rcases bIn_pt hw hat ho (hne r hr) hin hm with ⟨y1, y2⟩ | ⟨y1, y2, y3, y4⟩ | ⟨y1, y2, y3, y4, y5⟩
      · rw [y2] at hk'
        exact absurd hk' (by show ¬ (0 : Int) ≤ -1; decide)
      · omega
      · rw [y5] at hk' ⊢
        obtain ⟨p1, p2⟩ := prt_w (j := k - at_) hw ht y1 y3 (by omega) (by omega)
        have wl : D 72 (lF D (prt D (r.2.1 at_) (k - at_))) ≤ D 72 (prt D (r.2.1 at_) (k - at_)) := lft_w hw 41 _ p1 hk'
        have := hd r hr at_ hat.1 hat.2 y2
        omega
    · rw [if_neg z2] at hk'
      rw [if_neg z2, if_neg z2, h1 _ (hn.1.2.2.1 (k - mm + 1) (by omega) (by omega)).1.1 (hn.1.2.2.1 (k - mm + 1) (by omega) (by omega)).1.2]
      exact hd r hr (k - mm + 1) (by omega) (by omega) hk'
end CMK
