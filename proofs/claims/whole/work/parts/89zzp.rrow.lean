/-! ===== the reference: row ===== -/
section RRW
variable {e : yE} {d : Nat} {M : xM}
theorem s_hasNm {p a : Int} {Q : Int → xM → Prop} (hs : RSh e) (hw : wfP M) (hx : rfX M) (hp : isP M p) (a0 : 0 ≤ a) (a1 : a < 16) (h1 : nmb M p a → Q 1 M) (h0 : ¬ nmb M p a → Q 0 M) : R_hasName e (d + 1) p a M Q := by
  have := hp.2
  have := hw.1
  exact t_hasName (t_hasName_0 hs ⟨⟨hp.1, by omega⟩, bit_01 (hx.2.2 p hp).2 a0 a1, fun z => h0 z, fun z => h1 (Classical.not_not.mp z)⟩)
theorem s_typeOf {a : Int} (hs : RSh e) (hw : wfP M) (ht : wfT M) (hb : wfB M) (hx : rfX M) (a0 : 0 ≤ a) (a1 : a < 16) : ∀ (n d : Nat) (p : Int) (Q : Int → xM → Prop), isP M p → M 72 p ≤ (n : Int) → nmb M p a → n + 2 ≤ d → (rg (tyN M n p a) → Q (tyN M n p a) M) → R_typeOfName e d p a M Q := by
  intro n
  induction n with
  | zero => intro d p Q hp h; have := (hw.2 p hp).2.1; omega
  | succ n ih =>
    intro d p Q hp h1 hn hd hq
    obtain ⟨d, rfl⟩ : ∃ d', d = d' + 2 := ⟨d - 2, by omega⟩
    obtain ⟨w1, w2, w3, w4, w5, w6, w7, w8, w9⟩ := hw.2 p hp
    obtain ⟨b1, b2, b3, b4, b5⟩ := hb p hp a a0 a1
    have hp2 := hp.2
    have h300 := hw.1
    have h8 := ht.1
    have p3 : 0 ≤ p ∧ p < 300 := ⟨hp.1, by omega⟩
    -- one part
    have one : ∀ q, q = prt M p 0 → isP M q → M 72 q ≤ (n : Int) → nmb M q a → (rg (tyN M n q a) → Q (tyN M n q a) M) → R_typeOfName_70 e (d + 1) p a 1 0 M Q := by
      intro q eq hq1 hq2 hq3 hk
      refine t_typeOfName_70 hs ⟨⟨⟨by omega, by omega⟩, ⟨by omega, by omega⟩⟩, fun z => absurd z (by omega), fun _ => ⟨by omega, ?_⟩⟩
      rw [show M 71 (3 * p + 0) = q from eq.symm]
      exact s_hasNm hs hw hx hq1 a0 a1 (fun _ => ⟨⟨by omega, by omega⟩, fun z => absurd z (by decide), fun _ => ih (d + 1) q Q hq1 hq2 hq3 (by omega) hk⟩) (fun z => absurd hq3 z)
    refine t_typeOfName (t_typeOfName_0 hs ⟨p3, ⟨by omega, by omega⟩, fun z0 => ?_, fun z0 => ⟨p3, ⟨by omega, by omega⟩, fun z3 => ?_, fun z3 => ?_⟩⟩)
    · have e1 : tyN M (n + 1) p a = M 69 p := by
        show (if M 68 p = 0 then (if M 70 p = a then M 69 p else -1) else _) = _
        rw [if_pos z0, if_pos ((b1 z0).mp hn)]
      rw [e1] at hq
      exact t_typeOfName_19 hs ⟨p3, ⟨w3, ⟨by omega, by omega⟩⟩, fun z => absurd ((b1 z0).mp hn) z, fun _ => ⟨p3, hq ⟨by omega, by omega⟩⟩⟩
    · by_cases z2 : M 68 p = 2
      · refine t_typeOfName_36 hs ⟨p3, ⟨by omega, by omega⟩, fun z => absurd z2 z, fun _ => ⟨p3, p3, ?_⟩⟩
        obtain ⟨u1, u2, u3, u4⟩ := w7 z2
        have hpc := pct_rg hw ht hp z2
        have h6 := ht.2.1 (M 69 p) w1.1 (by omega)
        refine s_countOf hs (by omega) ?_
        rw [show M 61 (6 * M 69 p + M 70 p) = pct M p from rfl]
        have et : tyN M (n + 1) p a = if 0 < pct M p ∧ xand32 (xshr32 (M 73 (prt M p 0)) a) 1 = 1 then tyN M n (prt M p 0) a else if 1 < pct M p ∧ xand32 (xshr32 (M 73 (prt M p 1)) a) 1 = 1 then tyN M n (prt M p 1) a else if 2 < pct M p ∧ xand32 (xshr32 (M 73 (prt M p 2)) a) 1 = 1 then tyN M n (prt M p 2) a else -1 := by
          show (if M 68 p = 0 then _ else if M 68 p = 1 then -1 else if M 68 p = 3 then _ else if M 68 p = 4 then _ else _) = _
          rw [if_neg (by omega), if_neg (by omega), if_neg (by omega), if_neg (by omega)]
        have hu := ((b3 z2)).2
        -- turn j
        have turn : ∀ j, 0 ≤ j → j < pct M p → ¬ (∀ i, 0 ≤ i → i < j → ¬ nmb M (prt M p i) a) ∨ ((nmb M (prt M p j) a → tyN M (n + 1) p a = tyN M n (prt M p j) a)) := by
          intro j j0 j1
          by_cases g : ∀ i, 0 ≤ i → i < j → ¬ nmb M (prt M p i) a
          · right
            intro hj
            rw [et]
            have : j = 0 ∨ j = 1 ∨ j = 2 := by omega
            rcases this with q | q | q
            · subst q; rw [if_pos ⟨j1, hj⟩]
            · subst q; rw [if_neg (fun y => g 0 (by omega) (by omega) y.2), if_pos ⟨j1, hj⟩]
            · subst q; rw [if_neg (fun y => g 0 (by omega) (by omega) y.2), if_neg (fun y => g 1 (by omega) (by omega) y.2), if_pos ⟨j1, hj⟩]
          · exact Or.inl g
        have key : ∀ (k x : Nat), (x : Int) + k = pct M p → (∀ i, 0 ≤ i → i < (x : Int) → ¬ nmb M (prt M p i) a) → R_typeOfName_70 e (d + 1) p a (pct M p) x M Q := by
          intro k
          induction k with
          | zero =>
            intro x hx' g
            exfalso
            obtain ⟨j, j0, j1, hj⟩ := (b3 z2).1.mp hn
            exact g j j0 (by omega) hj
          | succ k ihk =>
            intro x hx' g
            obtain ⟨q1, q2⟩ := prt_w (j := x) hw ht hp z2 (by omega) (by omega)
            refine t_typeOfName_70 hs ⟨⟨⟨by omega, by omega⟩, ⟨by omega, by omega⟩⟩, fun z => absurd z (by omega), fun _ => ⟨by omega, ?_⟩⟩
            rw [show M 71 (3 * p + x) = prt M p x from rfl]
            refine s_hasNm hs hw hx q1 a0 a1 (fun y => ⟨⟨by omega, by omega⟩, fun z => absurd z (by decide), fun _ => ih (d + 1) (prt M p x) Q q1 (by omega) y (by omega) ?_⟩) (fun y => ⟨⟨by omega, by omega⟩, fun _ => ihk (x + 1) (by omega) (fun i i0 i1 => ?_), fun z => absurd rfl z⟩)
            · rcases turn x (by omega) (by omega) with t | t
              · exact absurd g t
              · rw [← t y]; exact hq
            · by_cases w : i = x
              · rw [w]; exact y
              · exact g i i0 (by omega)
        exact key (pct M p).toNat 0 (by omega) (fun i i0 i1 => by omega)
      · refine t_typeOfName_36 hs ⟨p3, ⟨by omega, by omega⟩, fun _ => ?_, fun z => absurd z2 z⟩
        by_cases z1 : M 68 p = 1
        · exact absurd hn (b2 z1)
        · have z4 : M 68 p = 4 := by omega
          obtain ⟨u1, u2⟩ := w9 z4
          have v0 := u1 0 (by omega) (by omega)
          have v1 := (hw.2 _ (u1 1 (by omega) (by omega)).1).2.1
          have e1 : tyN M (n + 1) p a = tyN M n (prt M p 0) a := by
            show (if M 68 p = 0 then _ else if M 68 p = 1 then -1 else if M 68 p = 3 then _ else if M 68 p = 4 then tyN M n (prt M p 0) a else _) = _
            rw [if_neg z0, if_neg z1, if_neg z3, if_pos z4]
          rw [e1] at hq
          exact one _ rfl v0.1 (by omega) ((b5 z4).1.mp hn) hq
    · have z3 := Classical.not_not.mp z3
      obtain ⟨u1, u2, u3, u4, u5⟩ := w8 z3
      have e1 : tyN M (n + 1) p a = if M 70 p = a then M 69 p else tyN M n (prt M p 0) a := by
        show (if M 68 p = 0 then _ else if M 68 p = 1 then -1 else if M 68 p = 3 then (if M 70 p = a then M 69 p else tyN M n (prt M p 0) a) else _) = _
        rw [if_neg z0, if_neg (by omega), if_pos z3]
      rw [e1] at hq
      refine t_typeOfName_19 hs ⟨p3, ⟨w3, ⟨by omega, by omega⟩⟩, fun z => ?_, fun z => ⟨p3, ?_⟩⟩
      · rw [if_neg z] at hq
        refine t_typeOfName_36 hs ⟨p3, ⟨by omega, by omega⟩, fun _ => one _ rfl u2 (by omega) ?_ hq, fun y => absurd (by omega) y⟩
        rcases (b4 z3).1.mp hn with y | y
        · exact absurd y z
        · exact y
      · rw [if_pos (Classical.not_not.mp z)] at hq
        exact hq ⟨by omega, by omega⟩
/-- a name of a number among the patterns -/
def gN (M : xM) (A : Int → Int) (w x : Int) : Prop := (0 ≤ x ∧ x < 16) ∧ ∃ k, 0 ≤ k ∧ k < w ∧ nmb M (A k) x ∧ tyN M 41 (A k) x = 0
/-- the row may come -/
def rwC (M : xM) (m : Int) (A : Int → Int) (g1 g2 : Int) : Prop := M 77 m < 12 ∧ (∀ k, 0 ≤ k → k < M 75 m → isP M (A k) ∧ M 69 (A k) = M 76 (3 * m + k)) ∧ apS (M 73) A (M 75 m) ∧ (g1 = -1 ∨ ((∀ k, 0 ≤ k → k < M 75 m → M 74 (A k) = 0) ∧ gN M A (M 75 m) g1 ∧ gN M A (M 75 m) g2))
/-- the reference with the row -/
def rRw (M M' : xM) (m : Int) (A : Int → Int) (g1 g2 : Int) : Prop := (∀ c, c ≠ 59 → c ≠ 77 → c ≠ 78 → c ≠ 79 → c ≠ 80 → c ≠ 96 → M' c = M c) ∧ (∀ i, i ≠ 0 → M' 59 i = M 59 i) ∧ (M' 77 m = M 77 m + 1 ∧ ∀ i, i ≠ m → M' 77 i = M 77 i) ∧ (∀ k, 0 ≤ k → k < M 75 m → M' 78 (36 * m + 3 * M 77 m + k) = A k) ∧ (∀ i, ¬ (36 * m + 3 * M 77 m ≤ i ∧ i < 36 * m + 3 * M 77 m + M 75 m) → M' 78 i = M 78 i) ∧ (M' 79 (12 * m + M 77 m) = g1 ∧ ∀ i, i ≠ 12 * m + M 77 m → M' 79 i = M 79 i) ∧ (M' 80 (12 * m + M 77 m) = g2 ∧ ∀ i, i ≠ 12 * m + M 77 m → M' 80 i = M 80 i) ∧ M' 96 m = 0 ∧ ∀ i, i ≠ m → M' 96 i = M 96 i
theorem gN_s {A : Int → Int} {w x : Int} : gN M A (w + 1) x ↔ gN M A w x ∨ (0 ≤ w ∧ (0 ≤ x ∧ x < 16) ∧ nmb M (A w) x ∧ tyN M 41 (A w) x = 0) := by
  constructor
  · rintro ⟨h, k, k0, k1, h2⟩
    by_cases z : k = w
    · rw [z] at h2 k0; exact Or.inr ⟨k0, h, h2⟩
    · exact Or.inl ⟨h, k, k0, by omega, h2⟩
  · rintro (⟨h, k, k0, k1, h2⟩ | ⟨w0, h, h2⟩)
    · exact ⟨h, k, k0, by omega, h2⟩
    · exact ⟨h, w, w0, by omega, h2⟩
end RRW
