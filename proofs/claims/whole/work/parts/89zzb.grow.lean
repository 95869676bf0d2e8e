/-! ===== when more comes: what stays ===== -/
section GRW
variable {e : yE} {C C' D D' : xM} {cs cl : Nat}
theorem mtC_c {x : Int} (hw : wfP D) (ht : wfT D) (hM : wfM D x) (h28 : C' 28 = C 28) (hC : ∀ mq : Nat, C 28 x = (mq : Int) → ∀ j, mq ≤ j → j ≤ mq + 17 → C' j = C j) (h : cng D D' x) (hs : mtC e C D x) : mtC e C' D' x := by
  obtain ⟨mq, h1, h2, h3, h4, h5, h6, h7⟩ := hs
  have k := hC mq h1
  have h75 := hM.2.1
  have h77 := hM.2.2.1
  obtain ⟨d1, d2, d3, d4⟩ := h.2.2.2.2
  refine ⟨mq, by rw [h28]; exact h1, h2, h3, ?_, ?_, by rw [k mq (by omega) (by omega)]; exact h6, fun z => ?_⟩
  · unfold mCl at *
    rw [k mq (by omega) (by omega), k (mq + 1) (by omega) (by omega), k (mq + 2) (by omega) (by omega), d1, d2]
    refine ⟨h4.1, h4.2.1, fun q q0 q1 => by rw [d3 q q0 (by omega)]; exact h4.2.2.1 q q0 q1, fun r q r0 r1 q0 q1 => ?_⟩
    rw [show 36 * x + 3 * r + q = 36 * x + (3 * r + q) by omega, d4 (3 * r + q) (by omega) (by omega), ← show 36 * x + 3 * r + q = 36 * x + (3 * r + q) by omega]
    exact h4.2.2.2 r q r0 r1 q0 q1
  · unfold gCl at *
    rw [k (mq + 3) (by omega) (by omega), k (mq + 4) (by omega) (by omega)]
    intro r r0 r1
    rw [(h.2.2.2.1 r r0 r1).1, (h.2.2.2.1 r r0 r1).2]; exact h5 r r0 r1
  · rw [k mq (by omega) (by omega)] at z
    exact trO_c hw ht hM h (trO_cg (fun j y1 y2 => k j (by omega) (by omega)) (h7 z))
theorem cRel_c (hr : rOK D) (hC : ∀ c, (c = 28 ∨ 99 < c ∨ (30 ≤ c ∧ c ≤ 37) ∨ c = 0) → C' c = C c) (h25 : D' 59 25 = D 59 25) (hc : ∀ x, 0 ≤ x → x < D 59 25 → cng D D' x) (hst : stc C' D') (hs : cRel e C D cs cl) : cRel e C' D' cs cl := by
  obtain ⟨s1, s2, s3, s4, s5, s6, s7⟩ := hs
  refine ⟨s1, s2, ?_, hst, fun x x0 x1 => ?_, ?_, s7⟩
  · obtain ⟨a, -, -⟩ := hpC_cg (M' := C') s3.1 (hC 30 (by omega)) (hC 34 (by omega)) (fun j hj => hC j (by
      have := hj.2.2.2
      rcases this with z | z
      · by_cases w2 : 30 ≤ j ∧ j ≤ 37
        · exact Or.inr (Or.inr (Or.inl w2))
        · by_cases w0 : j = 0
          · exact Or.inr (Or.inr (Or.inr w0))
          · exact absurd hj (nC_fix s1 (by omega) z (by omega) (by omega))
      · exact Or.inr (Or.inl z)))
    exact ⟨a, s3.2⟩
  · rw [h25] at x1
    exact mtC_c hr.1.1 hr.1.2.1 (hr.2.2.1 x x0 x1).1.1 (hC 28 (by omega)) (fun mq hmq j y1 y2 => hC j (by
      obtain ⟨mq', h1, -, h3, -⟩ := s5 x x0 x1
      have : (mq : Int) = mq' := by rw [← hmq, h1]
      omega)) (hc x x0 x1) (s5 x x0 x1)
  · unfold dsj at *
    rw [h25, hC 28 (by omega)]; exact s6
theorem mOK_c {x : Int} (h : cng D D' x) (h74 : ∀ p, isP D p → D' 74 p = D 74 p) (hO : mOK D x) : mOK D' x := by
  obtain ⟨⟨a1, a2, a3, a4, a5⟩, b, c, d, g⟩ := hO
  obtain ⟨d1, d2, d3, d4⟩ := h.2.2.2.2
  have h1 := h.2.2.1.2.2.2.2
  have h63 := h.2.2.1.2.2.2.1
  have e78 : ∀ r k, 0 ≤ r → r < D 77 x → 0 ≤ k → k < D 75 x → D' 78 (36 * x + 3 * r + k) = D 78 (36 * x + 3 * r + k) := by
    intro r k r0 r1 k0 k1
    have := d4 (3 * r + k) (by omega) (by omega)
    rw [show 36 * x + 3 * r + k = 36 * x + (3 * r + k) by omega]; exact this
  have ep : ∀ r k, 0 ≤ r → r < D 77 x → 0 ≤ k → k < D 75 x → rpt D' x r k = rpt D x r k := e78
  refine ⟨⟨a1, by rw [d1]; exact a2, by rw [d2]; exact a3, fun k k0 k1 => ?_, fun r k r0 r1 k0 k1 => ?_⟩, fun r r0 r1 hg a ha => ?_, fun r j k a r0 r1 j0 j1 k0 k1 hjk a0 a1 hh => ?_, fun r r0 r1 hg k k0 k1 => ?_, fun r r0 r1 => ?_⟩
  · rw [d1] at k1
    rw [d3 k k0 (by omega), h63]
    have := a4 k k0 k1
    exact ⟨this.1, by omega, this.2.2⟩
  · rw [d2] at r1; rw [d1] at k1
    obtain ⟨p1, p2⟩ := a5 r k r0 r1 k0 k1
    rw [e78 r k r0 r1 k0 k1, d3 k k0 (by omega), (h.2.1 _ p1).2.1]
    exact ⟨isP_c h p1, p2⟩
  · rw [d2] at r1
    rw [(h.2.2.2.1 r r0 (by omega)).1] at hg ha
    rw [(h.2.2.2.1 r r0 (by omega)).2] at ha
    obtain ⟨g1, k, ⟨k0, k1⟩, hk⟩ := b r r0 r1 hg a ha
    refine ⟨g1, k, ⟨k0, by rw [d1]; exact k1⟩, ?_⟩
    rw [e78 r k r0 r1 k0 k1]
    exact (nmb_c h (a5 r k r0 r1 k0 k1).1).mpr hk
  · rw [d2] at r1; rw [d1] at j1 k1
    rw [ep r j r0 r1 j0 j1, ep r k r0 r1 k0 k1] at hh
    exact c r j k a r0 r1 j0 j1 k0 k1 hjk a0 a1 ⟨(nmb_c h (a5 r j r0 r1 j0 j1).1).mp hh.1, (nmb_c h (a5 r k r0 r1 k0 k1).1).mp hh.2⟩
  · rw [d2] at r1; rw [d1] at k1
    rw [(h.2.2.2.1 r r0 (by omega)).1] at hg
    have := d r r0 r1 hg k k0 k1
    unfold noE at *
    rw [ep r k r0 r1 k0 k1, h74 (rpt D x r k) (a5 r k r0 r1 k0 k1).1]; exact this
  · rw [(h.2.2.2.1 r r0 r1).1]; exact g r r0 r1
theorem rOK_c (hr : rOK D) (hW : wOK D') (h25 : D' 59 25 = D 59 25) (hc : ∀ x, 0 ≤ x → x < D 59 25 → cng D D' x) (h74 : ∀ p, isP D p → D' 74 p = D 74 p) (h96 : D' 96 = D 96) (h97 : D' 97 = D 97) (h98 : D' 98 = D 98) (hV : 0 < D 59 25 → wfV D') (h79 : D' 79 = D 79) (h80 : D' 80 = D 80) : rOK D' := by
  obtain ⟨a1, a2, a3, a4, a5⟩ := hr
  refine ⟨hW, by rw [h25]; exact a2, fun x x0 x1 => ?_, fun z => hV (by rw [← h25]; exact z), ⟨by rw [h79]; exact a5.1, fun x x0 x1 => by rw [h96, h79, h80]; exact a5.2 x (by rw [← h25]; exact x0) x1⟩⟩
  rw [h25] at x1
  exact ⟨mOK_c (hc x x0 x1) h74 (a3 x x0 x1).1, lkO_c a1.1 a1.2.1 (a3 x x0 x1).1.1 (hc x x0 x1) (by rw [h96]) (by rw [h97]) (fun k _ _ => by rw [h98]) (a3 x x0 x1).2⟩
end GRW
section OPV
variable {e : yE} {d : Nat} {M : xM}
def smS (f : Int → Int) : Nat → Int
  | 0 => 0
  | n + 1 => smS f n + f n
theorem s_sumOf {a0 n0 : Nat} {n : Nat} {Q : Int → xM → Prop} (ha : yAr e a0 n0) (hn : n ≤ n0) (h20 : n0 ≤ 100) (h : Q (smS (M a0) n) M) : R_sumOf e (d + 1) a0 n0 n M Q := by
  have key : ∀ (j x : Nat), x + j = n → R_sumOf_4 e d a0 n0 n (smS (M a0) x) x M Q := by
    intro j
    induction j with
    | zero => intro x hx; subst hx; exact t_sumOf_4 ha ⟨⟨⟨by omega, by omega⟩, ⟨by omega, by omega⟩⟩, fun _ => h, fun z => absurd (by omega) z⟩
    | succ j ih => intro x hx; exact t_sumOf_4 ha ⟨⟨⟨by omega, by omega⟩, ⟨by omega, by omega⟩⟩, fun z => absurd z (by omega), fun _ => ⟨by omega, ih (x + 1) (by omega)⟩⟩
  exact t_sumOf (t_sumOf_0 ha (key n 0 (by omega)))
theorem smS_rg {f : Int → Int} {b : Int} : ∀ n : Nat, (∀ i : Int, 0 ≤ i → i < n → 0 ≤ f i ∧ f i ≤ b) → 0 ≤ smS f n ∧ smS f n ≤ b * n := by
  intro n
  induction n with
  | zero => intro _; show (0 : Int) ≤ 0 ∧ (0 : Int) ≤ b * ((0 : Nat) : Int); simp
  | succ n ih =>
    intro h
    obtain ⟨i1, i2⟩ := ih (fun i i0 i1 => h i i0 (by omega))
    obtain ⟨f1, f2⟩ := h n (by omega) (by omega)
    show 0 ≤ smS f n + f n ∧ smS f n + f n ≤ b * ((n + 1 : Nat) : Int)
    have : b * ((n + 1 : Nat) : Int) = b * n + b := by rw [show ((n + 1 : Nat) : Int) = (n : Int) + 1 by omega, Int.mul_add, Int.mul_one]
    omega
theorem op_count {x : Int} (h : Rel e M) (hd : 1200 ≤ d) (hx : rg x) : C_Mf_count e d x M (fun y M1 => R_count e d x M1 (fun y2 M2 => y = y2 ∧ rg y ∧ Rel e M2 ∧ M2 0 = M 0)) := by
  have h' := h
  obtain ⟨cs, cl, h1, hr, hw, ht, hxx, hro⟩ := h'
  obtain ⟨d, rfl⟩ : ∃ d', d = d' + 9 := ⟨d - 9, by omega⟩
  obtain ⟨r1, r2⟩ := rel_0 (v := 0) h
  obtain ⟨s1, s2, s3, s4, s5, s6, s7⟩ := h1
  obtain ⟨gp, gt, gv, gb, ge⟩ := hr.1
  have h20 := hr.2.1
  have e14 : M 1 4 = M 59 25 := s4.2.2.2.2.2.1
  have b60 : ∀ i : Int, 0 ≤ i → i < 8 → 0 ≤ M 60 i ∧ M 60 i ≤ 6 := fun i i0 i1 => gt.2.1 i i0 i1
  refine c_Mf_count (c_Mf_count_0 s1 ⟨hx, fun z => c_Mf_count_82 s1 ?_, fun z => c_Mf_count_40 s1 ?_, fun z => c_Mf_count_48 s1 ?_, fun z => c_Mf_count_56 s1 ?_, fun z => c_Mf_count_64 s1 ?_, fun z => c_Mf_count_72 s1 ?_, fun z => c_Mf_count_77 s1 ?_⟩)
  · refine t_count (t_count_0 s2 (fun M1 e1 => ⟨hx, fun _ => ⟨hx, fun _ => ⟨hx, fun _ => ⟨hx, fun _ => ⟨hx, fun _ => ⟨hx, fun _ => ?_, fun y => absurd (by omega) y⟩, fun y => absurd (by omega) y⟩, fun y => absurd (by omega) y⟩, fun y => absurd (by omega) y⟩, fun y => absurd (by omega) y⟩, fun y => absurd (by omega) y⟩))
    rw [e1]; exact ⟨rfl, ⟨by omega, by omega⟩, r1, r2⟩
  · subst z
    refine t_count (t_count_0 s2 (fun M1 e1 => ⟨hx, fun y => absurd rfl y, fun _ => ?_⟩))
    rw [e1, xri (by decide), s4.2.2.1.1]; exact ⟨rfl, by have := gt.1; exact ⟨by omega, by omega⟩, r1, r2⟩
  · subst z
    refine t_count (t_count_0 s2 (fun M1 e1 => ⟨hx, fun _ => ⟨hx, fun y => absurd rfl y, fun _ => ?_⟩, fun y => absurd (by decide) y⟩))
    have hpl := s4.2.2.2.2.2.2.2
    refine s_sumOf (n := 8) (a0 := 60) (n0 := 8) (rs_1 s2) (by decide) (by decide) ?_
    have e60 : M1 60 = M 60 := by rw [e1, xrd (by decide)]
    have hs : smS (M1 60) 8 = M 2 1 := by rw [e60, hpl.2.2.2]; show ((((((((0 + M 60 0) + M 60 1) + M 60 2) + M 60 3) + M 60 4) + M 60 5) + M 60 6) + M 60 7) = _; omega
    rw [hs, e1]
    refine ⟨rfl, ?_, r1, r2⟩
    rw [hpl.2.2.2]
    have a0 := b60 0 (by decide) (by decide)
    have a1 := b60 1 (by decide) (by decide)
    have a2 := b60 2 (by decide) (by decide)
    have a3 := b60 3 (by decide) (by decide)
    have a4 := b60 4 (by decide) (by decide)
    have a5 := b60 5 (by decide) (by decide)
    have a6 := b60 6 (by decide) (by decide)
    have a7 := b60 7 (by decide) (by decide)
    exact ⟨by omega, by omega⟩
  · subst z
    refine t_count (t_count_0 s2 (fun M1 e1 => ⟨hx, fun _ => ⟨hx, fun _ => ⟨hx, fun y => absurd rfl y, fun _ => ?_⟩, fun y => absurd (by decide) y⟩, fun y => absurd (by decide) y⟩))
    rw [e1, xri (by decide), s4.2.2.2.2.1.1]; exact ⟨rfl, by have := gv.1; exact ⟨by omega, by omega⟩, r1, r2⟩
  · subst z
    refine t_count (t_count_0 s2 (fun M1 e1 => ⟨hx, fun _ => ⟨hx, fun _ => ⟨hx, fun _ => ⟨hx, fun y => absurd rfl y, fun _ => ?_⟩, fun y => absurd (by decide) y⟩, fun y => absurd (by decide) y⟩, fun y => absurd (by decide) y⟩))
    rw [e1, xri (by decide), s4.2.2.2.2.2.2.1.2.2.1]; exact ⟨rfl, by have := gp.1; exact ⟨by omega, by omega⟩, r1, r2⟩
  · subst z
    refine t_count (t_count_0 s2 (fun M1 e1 => ⟨hx, fun _ => ⟨hx, fun _ => ⟨hx, fun _ => ⟨hx, fun _ => ⟨hx, fun y => absurd rfl y, fun _ => ?_⟩, fun y => absurd (by decide) y⟩, fun y => absurd (by decide) y⟩, fun y => absurd (by decide) y⟩, fun y => absurd (by decide) y⟩))
    rw [e1, xri (by decide), e14]; exact ⟨rfl, ⟨by omega, by omega⟩, r1, r2⟩
  · subst z
    have key : ∀ (n y : Nat), (y : Int) + n = M 59 25 → C_Mf_allRows_4 e (d + 7) (smS (M 77) y) y M (fun y M1 => R_count e (d + 9) 5 M1 (fun y2 M2 => y = y2 ∧ rg y ∧ Rel e M2 ∧ M2 0 = M 0)) := by
      intro n
      induction n with
      | zero =>
        intro y hy
        refine c_Mf_allRows_4 s1 ⟨⟨⟨by omega, by omega⟩, by rw [e14]; exact ⟨by omega, by omega⟩⟩, fun _ => ?_, fun z => absurd (by rw [e14]; omega) z⟩
        refine t_count (t_count_0 s2 (fun M1 e1 => ⟨hx, fun _ => ⟨hx, fun _ => ⟨hx, fun _ => ⟨hx, fun _ => ⟨hx, fun _ => ⟨hx, fun y => absurd rfl y, fun _ => ?_⟩, fun y => absurd (by decide) y⟩, fun y => absurd (by decide) y⟩, fun y => absurd (by decide) y⟩, fun y => absurd (by decide) y⟩, fun y => absurd (by decide) y⟩))
        have e25 : M1 59 25 = (y : Int) := by rw [e1, xri (by decide)]; omega
        rw [e25]
        refine s_sumOf (n := y) (a0 := 77) (n0 := 20) (rs_18 s2) (by omega) (by decide) ?_
        rw [e1, xrd (by decide)]
        have := smS_rg (f := M 77) (b := 12) y (fun i i0 i1 => (hr.2.2.1 i i0 (by omega)).1.1.2.2.1)
        exact ⟨rfl, by exact ⟨by omega, by omega⟩, r1, r2⟩
      | succ n ih =>
        intro y hy
        obtain ⟨mq, m1, m2, m3, m4, -⟩ := s5 y (by omega) (by omega)
        refine c_Mf_allRows_4 s1 ⟨⟨⟨by omega, by omega⟩, by rw [e14]; exact ⟨by omega, by omega⟩⟩, fun z => absurd z (by rw [e14]; omega), fun _ => ⟨by omega, mq, ⟨m1, m2⟩, ?_⟩⟩
        rw [m4.2.1]
        exact ih (y + 1) (by omega)
    exact c_Mf_allRows (c_Mf_allRows_0 s1 (key (M 59 25).toNat 0 (by omega)))
end OPV
