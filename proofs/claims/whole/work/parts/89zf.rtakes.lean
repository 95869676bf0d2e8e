/-! ===== the reference: takes, and the rows of run ===== -/
section RTK
variable {D : xM} {e : yE} {m r : Int}
theorem nvF_rg (hw : wfP D) (ht : wfT D) (hv : wfVl D) (hb : wfB D) {a : Int} (a0 : 0 ≤ a) (a1 : a < 16) : ∀ (n : Nat) (p v : Int), isP D p → D 72 p ≤ (n : Int) → vOf D p v → mF D p v = true → nmb D p a → 0 ≤ nvF D p v a ∧ nvF D p v a < D 59 10 := by
  intro n
  induction n with
  | zero => intro p v hp h; have := (hw.2 p hp).2.1; omega
  | succ n ih =>
    intro p v hp hn hvo hm ha
    obtain ⟨w1, w2, w3, w4, w5, w6, w7, w8, w9⟩ := hw.2 p hp
    have hb' := hb p hp a a0 a1
    have : D 68 p = 0 ∨ D 68 p = 1 ∨ D 68 p = 2 ∨ D 68 p = 3 ∨ D 68 p = 4 := by omega
    rcases this with z | z | z | z | z
    · rw [nvF_0 z ((hb'.1 z).mp ha)]; exact hvo.1
    · exact absurd ha (hb'.2.1 z)
    · obtain ⟨j, j0, j1, hj⟩ := (hb'.2.2.1 z).1.mp ha
      obtain ⟨m1, m2⟩ := (mF_2 hw ht hp z).mp hm
      obtain ⟨p1, p2⟩ := prt_w hw ht hp z j0 j1
      rw [nvF_2 hw ht hb hp z a0 a1 j0 j1 hj]
      exact ih _ _ p1 (by omega) (vOf_pt hw hv hp z hvo m1 j0 j1) (m2 j j0 j1) hj
    · obtain ⟨b1, b2, b3, b4, b5⟩ := w8 z
      rw [nvF_3 hw ht hp z]
      by_cases y : D 70 p = a
      · rw [if_pos y]; exact hvo.1
      · rw [if_neg y]
        rcases (hb'.2.2.2.1 z).1.mp ha with w | w
        · exact absurd w y
        · rw [mF_3 hw ht hp z] at hm
          exact ih _ _ b2 (by omega) ⟨hvo.1, by rw [b4]; exact hvo.2⟩ hm w
    · obtain ⟨b1, b2⟩ := w9 z
      obtain ⟨p0, p0', p0''⟩ := b1 0 (by omega) (by omega)
      obtain ⟨p1, p1', p1''⟩ := b1 1 (by omega) (by omega)
      have q0 := (hw.2 _ p0).2.1
      have q1 := (hw.2 _ p1).2.1
      rw [nvF_4 hw ht hp z]
      by_cases y : mF D (prt D p 0) v = true
      · rw [if_pos y]
        exact ih _ _ p0 (by omega) ⟨hvo.1, by rw [p0'']; exact hvo.2⟩ y ((hb'.2.2.2.2 z).1.mp ha)
      · rw [if_neg y]
        rw [mF_4 hw ht hp z] at hm
        have hm1 : mF D (prt D p 1) v = true := by
          cases hx : mF D (prt D p 0) v with
          | true => exact absurd hx y
          | false => rw [hx] at hm; exact hm
        exact ih _ _ p1 (by omega) ⟨hvo.1, by rw [p1'']; exact hvo.2⟩ hm1 ((hb'.2.2.2.2 z).2.mp ha)
/-- the values that are given are of the match's types -/
def vaO (D : xM) (m : Int) (va : Int → Int) : Prop := ∀ k, 0 ≤ k → k < D 75 m → (0 ≤ va k ∧ va k < D 59 10) ∧ D 64 (va k) = D 76 (3 * m + k)
theorem vaO_v {va : Int → Int} (hM : wfM D m) (hva : vaO D m va) {k : Int} (r0 : 0 ≤ r) (r1 : r < D 77 m) (k0 : 0 ≤ k) (k1 : k < D 75 m) : isP D (rpt D m r k) ∧ vOf D (rpt D m r k) (va k) := by
  obtain ⟨h1, h2⟩ := hM.2.2.2.2 r k r0 r1 k0 k1
  obtain ⟨h3, h4⟩ := hva k k0 k1
  exact ⟨h1, h3, by rw [h4]; exact h2.symm⟩
/-- the names of a guard stand for values -/
theorem nR_gd {va : Int → Int} {a : Int} (hw : wfP D) (ht : wfT D) (hv : wfVl D) (hb : wfB D) (hM : wfM D m) (hG : wfG D m) (hU : wfU D m) (hva : vaO D m va) (r0 : 0 ≤ r) (r1 : r < D 77 m) (hg : ¬ D 79 (12 * m + r) < 0) (ha : a = D 79 (12 * m + r) ∨ a = D 80 (12 * m + r)) (hm : mR D m va r) : (0 ≤ a ∧ a < 16) ∧ 0 ≤ nR D m va r a ∧ nR D m va r a < D 59 10 := by
  obtain ⟨g1, k, ⟨k0, k1⟩, hk⟩ := hG r r0 r1 (by omega) a ha
  obtain ⟨v1, v2⟩ := vaO_v hM hva r0 r1 k0 k1
  refine ⟨g1, ?_⟩
  rw [nR_at hU r0 r1 g1.1 g1.2 k0 k1 hk]
  exact nvF_rg hw ht hv hb g1.1 g1.2 40 _ _ v1 (hw.2 _ v1).2.1.2 v2 (hm k k0 k1) hk
theorem s_takes {d : Nat} {a b c : Int} {M : xM} {Q : Int → xM → Prop} (hs : RSh e) (hw : wfP D) (ht : wfT D) (hv : wfVl D) (hb : wfB D) (hM : wfM D m) (hG : wfG D m) (hU : wfU D m) (hd : 50 ≤ d) (r0 : 0 ≤ r) (r1 : r < D 77 m) (hva : vaO D m (fun q => pk3 q a b c)) (hst : ∀ c, 59 < c → c < 81 → M c = D c) (hr9 : ∀ i, 0 ≤ i → i < 240 → rg (D 79 i))
    (h1 : tkR D m (fun q => pk3 q a b c) r → ∀ M', (∀ j, j ≠ 82 → M' j = M j) → (∀ x, 0 ≤ x → x < 16 → M' 82 x = nR D m (fun q => pk3 q a b c) r x) → Q 1 M')
    (h0 : ¬ tkR D m (fun q => pk3 q a b c) r → ∀ M', (∀ j, j ≠ 82 → M' j = M j) → Q 0 M') : R_takes e d m r a b c M Q := by
  obtain ⟨d, rfl⟩ : ∃ d', d = d' + 1 := ⟨d - 1, by omega⟩
  have hm20 := hM.1
  have h75 := hM.2.1
  have h77 := hM.2.2.1
  obtain ⟨va, hvad⟩ : ∃ va : Int → Int, va = fun q => pk3 q a b c := ⟨_, rfl⟩
  rw [← hvad] at hva h1 h0
  -- columns
  have cols : ∀ (n x : Nat) (M1 : xM), (x : Int) + n = D 75 m → (∀ j, j ≠ 82 → M1 j = M j) → (∀ k, 0 ≤ k → k < (x : Int) → mF D (rpt D m r k) (va k) = true) → (∀ y, 0 ≤ y → y < 16 → M1 82 y = nRc D m va r y x) → R_takes_27 e d m r a b c x M1 Q := by
    intro n
    induction n with
    | zero =>
      intro x M1 hx g1 g2 g3
      have hst1 : ∀ c, 59 < c → c < 81 → M1 c = D c := fun c c0 c1 => by rw [g1 c (by omega)]; exact hst c c0 c1
      have e75 := hst1 75 (by decide) (by decide)
      have e79 := hst1 79 (by decide) (by decide)
      have e80 := hst1 80 (by decide) (by decide)
      have e65 := hst1 65 (by decide) (by decide)
      have hmR : mR D m va r := fun k k0 k1 => g2 k k0 (by omega)
      have hnm : ∀ y, 0 ≤ y → y < 16 → M1 82 y = nR D m va r y := fun y y0 y1 => by
        rw [g3 y y0 y1]; unfold nR; rw [show (D 75 m).toNat = x by omega]
      refine t_takes_27 hs ⟨hm20, ⟨⟨by omega, by omega⟩, by rw [e75]; exact ⟨by omega, by omega⟩⟩, fun _ => ⟨by omega, ?_⟩, fun z => absurd (by rw [e75]; omega) z⟩
      rw [e79]
      refine ⟨hr9 _ (by omega) (by omega), fun z => h1 ⟨hmR, Or.inl z⟩ M1 g1 hnm, fun z => ?_⟩
      obtain ⟨l1, l2⟩ := nR_gd hw ht hv hb hM hG hU hva r0 r1 z (Or.inl rfl) hmR
      obtain ⟨o1, o2⟩ := nR_gd hw ht hv hb hM hG hU hva r0 r1 z (Or.inr rfl) hmR
      have h300 := hv.1.2
      rw [e80, hnm _ l1.1 l1.2, hnm _ o1.1 o1.2, e65]
      refine ⟨l1, by omega, by omega, o1, by omega, ⟨(hv.2 _ l2.1 l2.2).1, (hv.2 _ o2.1 o2.2).1⟩, fun y => h0 (fun w => ?_) M1 g1, fun y => h1 ⟨hmR, Or.inr (by omega)⟩ M1 g1 hnm⟩
      rcases w.2 with w | w <;> omega
    | succ n ih =>
      intro x M1 hx g1 g2 g3
      have hst1 : ∀ c, 59 < c → c < 81 → M1 c = D c := fun c c0 c1 => by rw [g1 c (by omega)]; exact hst c c0 c1
      have e75 := hst1 75 (by decide) (by decide)
      have e78 := hst1 78 (by decide) (by decide)
      obtain ⟨v1, v2⟩ := vaO_v (r := r) (k := x) hM hva r0 r1 (by omega) (by omega)
      obtain ⟨d', rfl⟩ : ∃ d', d = d' + 1 := ⟨d - 1, by omega⟩
      refine t_takes_27 hs ⟨hm20, ⟨⟨by omega, by omega⟩, by rw [e75]; exact ⟨by omega, by omega⟩⟩, fun z => absurd z (by rw [e75]; omega), fun _ => ?_⟩
      refine s_patternOf hs (by omega) (s_pick ⟨by omega, by omega⟩ ?_)
      rw [e78, show pk3 (x : Int) a b c = va x by rw [hvad]]
      refine s_dM hs hw ht hv hb 40 (d' + 1) (rpt D m r x) (va x) M1 _ (by omega) v1 (hw.2 _ v1).2.1.2 v2 (fun c c0 c1 => hst1 c c0 (by omega)) (fun M3 hM3 => ?_)
      obtain ⟨m1, m2, m3⟩ := hM3
      have m1' : ∀ j, j ≠ 82 → M3 j = M j := fun j hj => by rw [m1 j hj, g1 j hj]
      refine ⟨bI_rg, fun z => ?_, fun z => ?_⟩
      · have hmt : mF D (rpt D m r x) (va x) = true := Classical.not_not.mp (fun w => z (bI_0.mpr w))
        refine ih (x + 1) M3 (by omega) m1' (fun k k0 k1 => ?_) (fun y y0 y1 => ?_)
        · by_cases w : k = x
          · rw [w]; exact hmt
          · exact g2 k k0 (by omega)
        · show M3 82 y = if xand32 (xshr32 (D 73 (rpt D m r x)) y) 1 = 1 then nvF D (rpt D m r x) (va x) y else nRc D m va r y x
          by_cases w : nmb D (rpt D m r x) y
          · rw [m3 hmt y y0 y1 w]; exact (if_pos w).symm
          · rw [m2 y y0 y1 w, g3 y y0 y1]; exact (if_neg w).symm
      · have hmf : ¬ mF D (rpt D m r x) (va x) = true := bI_0.mp (Classical.not_not.mp z)
        exact h0 (fun w => hmf (w.1 x (by omega) (by omega))) M3 m1'
  -- names cleared
  have clr : ∀ (n x : Nat) (M1 : xM), x + n = 16 → (∀ j, j ≠ 82 → M1 j = M j) → (∀ y : Int, 0 ≤ y → y < x → M1 82 y = -1) → R_takes_3 e d m r a b c x M1 Q := by
    intro n
    induction n with
    | zero =>
      intro x M1 hx g1 g2
      exact t_takes_3 hs ⟨⟨by omega, by omega⟩, fun _ => cols (D 75 m).toNat 0 M1 (by omega) g1 (fun k k0 k1 => by omega) (fun y y0 y1 => g2 y y0 (by omega)), fun z => absurd (by omega) z⟩
    | succ n ih =>
      intro x M1 hx g1 g2
      refine t_takes_3 hs ⟨⟨by omega, by omega⟩, fun z => absurd z (by omega), fun _ => ⟨by omega, fun M2 e2 => ih (x + 1) M2 (by omega) (fun j hj => by rw [e2, xrd hj]; exact g1 j hj) (fun y y0 y1 => ?_)⟩⟩
      by_cases w : y = x
      · rw [e2, w, xrs]
      · rw [e2, xri w]; exact g2 y y0 (by omega)
  exact t_takes (t_takes_0 hs (clr 16 0 M rfl (fun _ _ => rfl) (fun y y0 y1 => by omega)))
/-- the rows one by one -/
theorem s_run134 {d : Nat} {a b c : Int} {M : xM} {Q : Int → xM → Prop} (hs : RSh e) (hw : wfP D) (ht : wfT D) (hv : wfVl D) (hb : wfB D) (hM : wfM D m) (hG : wfG D m) (hU : wfU D m) (hd : 50 ≤ d) (hva : vaO D m (fun q => pk3 q a b c)) (hst : ∀ c, 59 < c → c < 81 → M c = D c) (hr9 : ∀ i, 0 ≤ i → i < 240 → rg (D 79 i))
    (h1 : ∀ r, 0 ≤ r → r < D 77 m → tkR D m (fun q => pk3 q a b c) r → (∀ j, 0 ≤ j → j < r → ¬ tkR D m (fun q => pk3 q a b c) j) → ∀ M', (∀ j, j ≠ 81 → j ≠ 82 → M' j = M j) → (∀ x, 0 ≤ x → x < 16 → M' 81 x = nR D m (fun q => pk3 q a b c) r x) → (∀ x, 16 ≤ x → M' 81 x = M 81 x) → Q r M')
    (h0 : (∀ j, 0 ≤ j → j < D 77 m → ¬ tkR D m (fun q => pk3 q a b c) j) → ∀ M', (∀ j, j ≠ 82 → M' j = M j) → Q (-1) M') : R_run_134 e d m a b c 0 M Q := by
  have hm20 := hM.1
  have h77 := hM.2.2.1
  have key : ∀ (n x : Nat) (M1 : xM), (x : Int) + n = D 77 m → (∀ j, j ≠ 82 → M1 j = M j) → (∀ j, 0 ≤ j → j < (x : Int) → ¬ tkR D m (fun q => pk3 q a b c) j) → R_run_134 e d m a b c x M1 Q := by
    intro n
    induction n with
    | zero =>
      intro x M1 hx g1 g2
      have e77 : M1 77 m = D 77 m := by rw [g1 77 (by decide), hst 77 (by decide) (by decide)]
      exact t_run_134 hs ⟨hm20, ⟨⟨by omega, by omega⟩, by rw [e77]; exact ⟨by omega, by omega⟩⟩, fun _ => h0 (fun j j0 j1 => g2 j j0 (by omega)) M1 g1, fun z => absurd (by rw [e77]; omega) z⟩
    | succ n ih =>
      intro x M1 hx g1 g2
      have e77 : M1 77 m = D 77 m := by rw [g1 77 (by decide), hst 77 (by decide) (by decide)]
      refine t_run_134 hs ⟨hm20, ⟨⟨by omega, by omega⟩, by rw [e77]; exact ⟨by omega, by omega⟩⟩, fun z => absurd z (by rw [e77]; omega), fun _ => ?_⟩
      refine s_takes hs hw ht hv hb hM hG hU hd (by omega) (by omega) hva (fun c c0 c1 => by rw [g1 c (by omega)]; exact hst c c0 c1) hr9 (fun htk M2 k1 k2 => ⟨⟨by omega, by omega⟩, fun z => absurd z (by decide), fun _ => ?_⟩) (fun hno M2 k1 => ⟨⟨by omega, by omega⟩, fun _ => ih (x + 1) M2 (by omega) (fun j hj => by rw [k1 j hj, g1 j hj]) (fun j j0 j1 => ?_), fun z => absurd rfl z⟩)
      · have cp : ∀ (nn y : Nat) (M3 : xM), y + nn = 16 → (∀ j, j ≠ 81 → M3 j = M2 j) → (∀ z : Int, 0 ≤ z → z < y → M3 81 z = M2 82 z) → (∀ z : Int, (y : Int) ≤ z → M3 81 z = M2 81 z) → R_run_162 e d x y M3 Q := by
          intro nn
          induction nn with
          | zero =>
            intro y M3 hy q1 q2 q3
            refine t_run_162 hs ⟨⟨by omega, by omega⟩, fun _ => h1 x (by omega) (by omega) htk g2 M3 (fun j y1 y2 => by rw [q1 j y1, k1 j y2, g1 j y2]) (fun z z0 z1 => by rw [q2 z z0 (by omega)]; exact k2 z z0 z1) (fun z z0 => by rw [q3 z (by omega), k1 81 (by decide), g1 81 (by decide)]), fun z => absurd (by omega) z⟩
          | succ nn ihh =>
            intro y M3 hy q1 q2 q3
            refine t_run_162 hs ⟨⟨by omega, by omega⟩, fun z => absurd z (by omega), fun _ => ⟨by omega, by omega, fun M4 e4 => ihh (y + 1) M4 (by omega) (fun j hj => by rw [e4, xrd hj]; exact q1 j hj) (fun z z0 z1 => ?_) (fun z z0 => by rw [e4, xri (by omega)]; exact q3 z (by omega))⟩⟩
            by_cases w : z = y
            · rw [e4, w, xrs, q1 82 (by decide)]
            · rw [e4, xri w]; exact q2 z z0 (by omega)
        exact cp 16 0 M2 rfl (fun _ _ => rfl) (fun z z0 z1 => by omega) (fun _ _ => rfl)
      · by_cases w : j = x
        · rw [w]; exact hno
        · exact g2 j j0 (by omega)
  exact key (D 77 m).toNat 0 M (by omega) (fun _ _ => rfl) (fun j j0 j1 => by omega)
end RTK
