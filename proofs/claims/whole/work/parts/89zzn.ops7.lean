/-! ===== both sides answer alike: any, also, exactly, either ===== -/
section OPY
variable {e : yE} {d : Nat} {M M0 : xM} {cs cl : Nat}
/-- the class puts a pattern behind the others -/
theorem s_addP {kind t label n : Int} {a : Int → Int} {Q : Int → xM → Prop} (hr : rOK M) (h1 : cRel e M M cs cl) (hx : rfX M) (h0 : ∀ j, j ≠ 58 → M0 j = M j) (hn : 0 ≤ n ∧ n ≤ 3) (h58 : ∀ j, 0 ≤ j → j < n → M0 58 j = a j) (hpt : ∀ j, 0 ≤ j → j < n → isP M (a j)) (hkd : rg kind) (ht : rg t)
    (hno : (M 59 18 = 300 ∨ 40 < smW (M 72) a n.toNat) → Q (-1) M0) (hok : M 59 18 < 300 → smW (M 72) a n.toNat ≤ 40 → ∀ M', adT 18 M0 M' kind t label n (if kind = 1 ∨ kind = 2 then xshl32 1 label else 0) a → Q (M 59 18) M') : C_Tm_add e (d + 2) 18 kind t label 58 3 n M0 Q := by
  obtain ⟨⟨gp, gt, gv, gb, ge⟩, -⟩ := hr
  obtain ⟨s1, s2, s3, s4, s5, s6, s7⟩ := h1
  obtain ⟨e180, e181, tP⟩ := s4.2.2.2.2.2.2.1.2
  have q18 : M0 18 = M 18 := h0 18 (by decide)
  have q22 : M0 (18 + 4) = M 22 := h0 (18 + 4) (by decide)
  have q27 : M0 (18 + 9) = M 27 := h0 (18 + 9) (by decide)
  have P0 := gp.1
  have hsm : smW (M0 (18 + 4)) a n.toNat = smW (M 72) a n.toNat := by
    rw [q22]
    exact smW_c _ (fun j j0 j1 => (tP (a j) (hpt j j0 (by omega))).2.1)
  refine s_addT (a := a) s1 (c5_18 s1) (Or.inr rfl) (by rw [q18, e181]; exact P0) hn h58 (fun j j0 j1 => by rw [q18, e181]; exact hpt j j0 j1) (fun i i0 i1 => ?_) (by rw [q18, e180]; exact ⟨by omega, by omega⟩) hkd ht (fun i i0 i1 => ?_) (fun z => hno ?_) (fun z1 z2 M' had => ?_)
  · rw [q18, e181] at i1
    rw [q22, (tP i ⟨i0, i1⟩).2.1]
    have := (gp.2 i ⟨i0, i1⟩).2.1; omega
  · rw [q18, e181] at i1
    rw [q27, (tP i ⟨i0, i1⟩).2.2.2.1]
    rcases (hx.2.2 i ⟨i0, i1⟩).1 with w | w <;> (rw [w]; exact ⟨by omega, by omega⟩)
  · rw [q18, e181, e180, hsm] at z; exact z
  · rw [q18, e181] at z1
    rw [q18, e180, hsm] at z2
    rw [q18, e181]
    exact hok z1 z2 M' had
theorem op_exactly {v : Int} (h : Rel e M) (hd : 1200 ≤ d) (hv : rg v) : C_Mf_exactly e d v M (fun y M1 => R_exactly e d v M1 (fun y2 M2 => y = y2 ∧ rg y ∧ Rel e M2 ∧ M2 0 = M 0)) := by
  have h' := h
  obtain ⟨cs, cl, h1, hr, hw, ht, hxx, hro⟩ := h'
  obtain ⟨d, rfl⟩ : ∃ d', d = d' + 9 := ⟨d - 9, by omega⟩
  have s1 := h1.1
  have s2 := h1.2.1
  have hP := hr.1.1.1
  obtain ⟨r1, r2⟩ := rel_58 h (fun _ _ => rfl)
  refine c_Mf_exactly (c_Mf_exactly_0 s1 (s_addP (d := d + 6) (a := fun _ => 0) hr h1 hxx (fun _ _ => rfl) (by omega) (fun j j0 j1 => by omega) (fun j j0 j1 => by omega) ⟨by omega, by omega⟩ ⟨by omega, by omega⟩ (fun z => ?_) (fun z1 z2 M1 had => ?_)))
  · have z' : M 59 18 = 300 := by
      rcases z with z | z
      · exact z
      · exact absurd (show (40 : Int) < 1 from z) (by decide)
    exact s_exactly_r (d := d + 7) s2 hP (fun _ => ⟨rfl, ⟨by omega, by omega⟩, r1, r2⟩) (fun y => by omega)
  · rw [if_neg (by decide)] at had
    have e59 : M1 59 = M 59 := had.1 59 (by omega)
    refine s_exactly_r (d := d + 7) s2 (by rw [e59]; exact hP) (fun y => by rw [e59] at y; omega) (fun y M2 hp => ?_)
    rw [e59]
    obtain ⟨hg, hcl⟩ := pGr_of (M := M1) (n := 0) (a := fun _ => 0) (fun c y1 y2 => xrd y1) (fun i hi => xri hi) (fun j j0 j1 => by omega) (fun i _ => by rw [xrd (by decide)]) hp
    have := rel_pat (kd := 1) (t := 0) (h := v) (w := 1) (b := 0) (ei := 0) (n := 0) (kind := 3) (own := 0) (a := fun _ => 0) hr h1 hw ht hxx hro z1 (fun _ _ => rfl) had hg hcl (by have := hr.1.2.1.1; omega) hv (Or.inr (Or.inl ⟨rfl, rfl, rfl, rfl, rfl⟩)) (fun j j0 j1 => by omega) rfl (by decide) rfl rfl
    exact ⟨rfl, ⟨by omega, by omega⟩, this⟩
theorem op_any {t v : Int} (h : Rel e M) (hd : 1200 ≤ d) (ht : rg t) (hv : rg v) : C_Mf_any e d t v M (fun y M1 => R_any e d t v M1 (fun y2 M2 => y = y2 ∧ rg y ∧ Rel e M2 ∧ M2 0 = M 0)) := by
  have h' := h
  obtain ⟨cs, cl, h1, hr, hw, htl, hxx, hro⟩ := h'
  obtain ⟨d, rfl⟩ : ∃ d', d = d' + 9 := ⟨d - 9, by omega⟩
  have s1 := h1.1
  have s2 := h1.2.1
  have hP := hr.1.1.1
  have h8 := hr.1.2.1.1
  have e20 : M 2 0 = M 59 1 := h1.2.2.2.1.2.2.1.1
  obtain ⟨r1, r2⟩ := rel_58 h (fun _ _ => rfl)
  have hno : ¬ ((0 ≤ t ∧ t < M 59 1) ∧ (v = -1 ∨ (0 ≤ v ∧ v < 16)) ∧ M 59 18 < 300) → R_any e (d + 9) t v M (fun y2 M2 => -1 = y2 ∧ rg (-1) ∧ Rel e M2 ∧ M2 0 = M 0) := fun z =>
    s_any_r (d := d + 7) s2 hP h8 ht hv (fun _ => ⟨rfl, ⟨by omega, by omega⟩, r1, r2⟩) (fun y1 y2 y3 => absurd ⟨y1, y2, y3⟩ z)
  -- one more
  have go : ∀ (kind lab own : Int), (0 ≤ t ∧ t < M 59 1) → lab = v → (v = -1 ∨ (0 ≤ v ∧ v < 16)) → rg kind → own = (if kind = 1 ∨ kind = 2 then xshl32 1 lab else 0) → own = (if v = -1 then 0 else xshl32 1 v) → ((v = -1 ∧ kind = 0 ∧ own = 0) ∨ (0 ≤ v ∧ kind = 1 ∧ own = xshl32 1 v)) → C_Tm_add e (d + 8) 18 kind t lab 58 3 0 M (fun y M1 => R_any e (d + 9) t v M1 (fun y2 M2 => y = y2 ∧ rg y ∧ Rel e M2 ∧ M2 0 = M 0)) := by
    intro kind lab own ht1 hl hv1 hk ho ho2 hk2
    refine s_addP (d := d + 6) (a := fun _ => 0) hr h1 hxx (fun _ _ => rfl) (by omega) (fun j j0 j1 => by omega) (fun j j0 j1 => by omega) hk ht (fun z => hno (fun u => ?_)) (fun z1 z2 M1 had => ?_)
    · rcases z with z | z
      · omega
      · exact absurd (show (40 : Int) < 1 from z) (by decide)
    · rw [← ho] at had
      have e59 : M1 59 = M 59 := had.1 59 (by omega)
      refine s_any_r (d := d + 7) s2 (by rw [e59]; exact hP) (by rw [e59]; exact h8) ht hv (fun y => by rw [e59] at y; exact absurd ⟨ht1, hv1, z1⟩ y) (fun y1 y2 y3 M2 hp => ?_)
      rw [e59]
      rw [← ho2] at hp
      rw [hl] at had
      obtain ⟨hg, hcl⟩ := pGr_of (M := M1) (n := 0) (a := fun _ => 0) (fun c y1 y2 => xrd y1) (fun i hi => xri hi) (fun j j0 j1 => by omega) (fun i _ => by rw [xrd (by decide)]) hp
      have := rel_pat (kd := 0) (t := t) (h := v) (w := 1) (b := own) (ei := 0) (n := 0) (kind := kind) (own := own) (a := fun _ => 0) hr h1 hw htl hxx hro z1 (fun _ _ => rfl) had hg hcl ht1 hv (Or.inl ⟨rfl, rfl, by omega, hk2⟩) (fun j j0 j1 => by omega) rfl (by decide) rfl (by rw [if_neg (by omega)]; rfl)
      exact ⟨rfl, ⟨by omega, by omega⟩, this⟩
  refine c_Mf_any (c_Mf_any_0 s1 (s_isTypeC s1 ht (by rw [e20]; exact ⟨by omega, by omega⟩) ?_))
  rw [e20]
  refine ⟨bI_rg, fun z => ?_, fun z => hno (fun u => bI_0.mp (Classical.not_not.mp z) u.1)⟩
  have ht1 : 0 ≤ t ∧ t < M 59 1 := Classical.not_not.mp (fun u => z (bI_0.mpr u))
  refine ⟨hv, fun y => s_isNameC s1 hv ⟨bI_rg, fun x => hno (fun u => ?_), fun x => ?_⟩, fun y => ?_⟩
  · rcases u.2.1 with w | w
    · exact y w
    · exact bI_0.mp x w
  · have hv1 : 0 ≤ v ∧ v < 16 := Classical.not_not.mp (fun u => x (bI_0.mpr u))
    exact go 1 v (xshl32 1 v) ht1 rfl (Or.inr hv1) ⟨by omega, by omega⟩ (by rw [if_pos (Or.inl rfl)]) (by rw [if_neg y]) (Or.inr ⟨hv1.1, rfl, rfl⟩)
  · have y' := Classical.not_not.mp y
    exact go 0 (-1) 0 ht1 y'.symm (Or.inl y') ⟨by omega, by omega⟩ (by rw [if_neg (by decide)]) (by rw [if_pos y']) (Or.inl ⟨y', rfl, rfl⟩)
theorem xor32_comm {x y : Int} : xor32 x y = xor32 y x := by unfold xor32; rw [Int32.or_comm]
theorem xand32_comm {x y : Int} : xand32 x y = xand32 y x := by unfold xand32; rw [Int32.and_comm]
theorem or_self {x : Int} (hx : nmW x) : xor32 (xor32 0 x) x = x := by
  obtain ⟨x0, x1⟩ := hx
  rw [xor32_nat (x := 0) (y := x) (by decide) (by decide) x0 (by omega)]
  have : (0 : Int).toNat ||| x.toNat = x.toNat := by rw [show (0 : Int).toNat = 0 from rfl, Nat.zero_or]
  rw [this, xor32_nat (by omega) (by omega) x0 (by omega), Int.toNat_natCast, Nat.or_self]
  omega
theorem op_also {v p : Int} (h : Rel e M) (hd : 1200 ≤ d) (hv : rg v) (hp : rg p) : C_Mf_also e d v p M (fun y M1 => R_also e d v p M1 (fun y2 M2 => y = y2 ∧ rg y ∧ Rel e M2 ∧ M2 0 = M 0)) := by
  have h' := h
  obtain ⟨cs, cl, h1, hr, hw, htl, hxx, hro⟩ := h'
  obtain ⟨d, rfl⟩ : ∃ d', d = d' + 9 := ⟨d - 9, by omega⟩
  have s1 := h1.1
  have s2 := h1.2.1
  have gp := hr.1.1
  have hP := gp.1
  have h8 := hr.1.2.1.1
  obtain ⟨e180, e181, tP⟩ := h1.2.2.2.1.2.2.2.2.2.2.1.2
  -- the reference at what the class leaves unchanged
  have k1 : ∀ M1 : xM, (∀ j, j ≠ 58 → M1 j = M j) → wfP M1 ∧ rfX M1 := by
    intro M1 g
    have kk : rKp M M1 := ⟨fun cc c0 c1 => g cc (by omega), by rw [g 59 (by decide)], by rw [g 59 (by decide)], by rw [g 59 (by decide)], by rw [g 59 (by decide)]⟩
    exact ⟨(rOK_s hr kk (g 96 (by decide)) (g 97 (by decide)) (g 98 (by decide))).1.1, rfX_k kk hxx⟩
  have hno : ∀ M1 : xM, (∀ j, j ≠ 58 → M1 j = M j) → ¬ ((0 ≤ v ∧ v < 16) ∧ isP M p ∧ M 59 18 < 300 ∧ ¬ nmb M p v ∧ M 72 p ≤ 39) → R_also e (d + 9) v p M1 (fun y2 M2 => -1 = y2 ∧ rg (-1) ∧ Rel e M2 ∧ M2 0 = M 0) := by
    intro M1 g z
    obtain ⟨r1, r2⟩ := rel_58 h g
    obtain ⟨w1, w2⟩ := k1 M1 g
    refine s_also_r (d := d + 7) s2 w1 w2 hv hp (fun _ => ⟨rfl, ⟨by omega, by omega⟩, r1, r2⟩) (fun y1 y2 y3 y4 y5 => ?_)
    unfold isP at y2
    unfold nmb at y4
    rw [g 59 (by decide)] at y2 y3
    rw [g 73 (by decide)] at y4
    rw [g 72 (by decide)] at y5
    exact absurd ⟨y1, y2, y3, y4, y5⟩ z
  refine c_Mf_also (c_Mf_also_0 s1 (s_isNameC s1 hv ⟨bI_rg, fun z => hno M (fun _ _ => rfl) (fun u => bI_0.mp z u.1), fun z => ?_⟩))
  have u1 : 0 ≤ v ∧ v < 16 := Classical.not_not.mp (fun u => z (bI_0.mpr u))
  refine s_hasC s1 (c5_18 s1) hp (by rw [e181]; exact ⟨by omega, by omega⟩) ?_
  rw [e181]
  refine ⟨bI_rg, fun z => hno M (fun _ _ => rfl) (fun u => bI_0.mp z u.2.1), fun z => ?_⟩
  have u2 : isP M p := Classical.not_not.mp (fun u => z (bI_0.mpr u))
  have u2' := u2.2
  have p3 : 0 ≤ p ∧ p < 300 := ⟨u2.1, by omega⟩
  have nW : nmW (M 73 p) := (hxx.2.2 p u2).2
  refine ⟨p3, c_Mf_inBits (c_Mf_inBits_0 s1 ?_)⟩
  rw [(tP p u2).2.2.1]
  refine ⟨bit_01 nW u1.1 u1.2, fun y => ⟨⟨by omega, by omega⟩, fun _ => ?_, fun x => absurd rfl x⟩, fun y => ⟨⟨by omega, by omega⟩, fun x => absurd x (by decide), fun _ => hno M (fun _ _ => rfl) (fun u => u.2.2.2.1 (Classical.not_not.mp y))⟩⟩
  have y : ¬ nmb M p v := y
  refine s_giveC (d := d + 7) s1 (fun M1 g1 g58 => ⟨p3, ?_⟩)
  rw [g1 20 (by decide), (tP p u2).1]
  have tr := (gp.2 p u2).1
  refine s_addP (d := d + 6) (a := fun _ => p) hr h1 hxx g1 (by omega) (fun j j0 j1 => ?_) (fun j j0 j1 => u2) ⟨by omega, by omega⟩ ⟨by omega, by omega⟩ (fun z => hno M1 g1 (fun u => ?_)) (fun z1 z2 M2 had => ?_)
  · rw [g58 j j0 (by omega), show j = 0 by omega]; rfl
  · rcases z with z | z
    · omega
    · have z : 40 < 1 + M 72 p := z
      omega
  · rw [if_pos (Or.inr rfl)] at had
    have z2 : 1 + M 72 p ≤ 40 := z2
    have g2 : ∀ j, ¬ (18 ≤ j ∧ j ≤ 27) → j ≠ 58 → M2 j = M j := fun j y1 y2 => by rw [had.1 j (by omega), g1 j y2]
    have e59 : M2 59 = M 59 := g2 59 (by omega) (by decide)
    have kk : rKp M M2 := ⟨fun cc c0 c1 => g2 cc (by omega) (by omega), by rw [e59], by rw [e59], by rw [e59], by rw [e59]⟩
    have w1 := (rOK_s hr kk (g2 96 (by omega) (by decide)) (g2 97 (by omega) (by decide)) (g2 98 (by omega) (by decide))).1.1
    have w2 := rfX_k kk hxx
    refine s_also_r (d := d + 7) s2 w1 w2 hv hp (fun x => ?_) (fun y1 y2 y3 y4 y5 M3 hp3 => ?_)
    · unfold isP nmb at x
      rw [e59, g2 73 (by omega) (by decide), g2 72 (by omega) (by decide)] at x
      exact absurd ⟨u1, u2, z1, y, by omega⟩ x
    · rw [g2 69 (by omega) (by decide), g2 72 (by omega) (by decide), g2 73 (by omega) (by decide), g2 74 (by omega) (by decide)] at hp3
      rw [e59]
      obtain ⟨hg, hcl⟩ := pGr_of (M := M2) (n := 1) (a := fun _ => p) (fun c y1 y2 => by rw [xrd y2, xrd y1]) (fun i hi => by rw [xrd (by decide), xri hi]) (fun j j0 j1 => by rw [show 3 * M2 59 18 + j = 3 * M2 59 18 by omega, xrs]) (fun i hi => by rw [xri (by omega), xrd (by decide)]) hp3
      have := rel_pat (kd := 3) (t := M 69 p) (h := v) (n := 1) (kind := 2) (own := xshl32 1 v) (a := fun _ => p) hr h1 hw htl hxx hro z1 g1 had hg hcl tr hv (Or.inr (Or.inr (Or.inr (Or.inl ⟨rfl, u1, rfl, rfl, rfl, rfl, y⟩)))) (fun j j0 j1 => u2) (show _ = 1 + M 72 p by omega) (by omega) (show _ = xor32 (xshl32 1 v) (M 73 p) from xor32_comm) ?_
      · exact ⟨rfl, ⟨by omega, by omega⟩, this⟩
      · show M 74 p = (if (0 : Int) ≠ 0 then 1 else if M 74 p = 0 then 0 else 1)
        rw [if_neg (show ¬ (0 : Int) ≠ 0 from fun u => u rfl)]
        rcases (hxx.2.2 p u2).1 with w | w
        · rw [if_pos w]; exact w
        · rw [if_neg (by omega)]; exact w
theorem op_either {p q : Int} (h : Rel e M) (hd : 1200 ≤ d) (hp : rg p) (hq : rg q) : C_Mf_either e d p q M (fun y M1 => R_either e d p q M1 (fun y2 M2 => y = y2 ∧ rg y ∧ Rel e M2 ∧ M2 0 = M 0)) := by
  have h' := h
  obtain ⟨cs, cl, h1, hr, hw, htl, hxx, hro⟩ := h'
  obtain ⟨d, rfl⟩ : ∃ d', d = d' + 9 := ⟨d - 9, by omega⟩
  have s1 := h1.1
  have s2 := h1.2.1
  have gp := hr.1.1
  have hP := gp.1
  have h8 := hr.1.2.1.1
  obtain ⟨e180, e181, tP⟩ := h1.2.2.2.1.2.2.2.2.2.2.1.2
  have hno : ∀ M1 : xM, (∀ j, j ≠ 58 → M1 j = M j) → ¬ (isP M p ∧ isP M q ∧ M 59 18 < 300 ∧ M 69 p = M 69 q ∧ M 73 p = M 73 q ∧ 1 + M 72 p + M 72 q ≤ 40) → R_either e (d + 9) p q M1 (fun y2 M2 => -1 = y2 ∧ rg (-1) ∧ Rel e M2 ∧ M2 0 = M 0) := by
    intro M1 g z
    obtain ⟨r1, r2⟩ := rel_58 h g
    have kk : rKp M M1 := ⟨fun cc c0 c1 => g cc (by omega), by rw [g 59 (by decide)], by rw [g 59 (by decide)], by rw [g 59 (by decide)], by rw [g 59 (by decide)]⟩
    have r3 := rOK_s hr kk (g 96 (by decide)) (g 97 (by decide)) (g 98 (by decide))
    refine s_either_r (d := d + 7) s2 r3.1.1 r3.1.2.1 (rfX_k kk hxx) hp hq (fun _ => ⟨rfl, ⟨by omega, by omega⟩, r1, r2⟩) (fun y1 y2 y3 y4 y5 y6 => ?_)
    unfold isP at y1 y2
    rw [g 59 (by decide)] at y1 y2 y3
    rw [g 69 (by decide)] at y4
    rw [g 73 (by decide)] at y5
    rw [g 72 (by decide)] at y6
    exact absurd ⟨y1, y2, y3, y4, y5, y6⟩ z
  refine c_Mf_either (c_Mf_either_0 s1 (s_hasC s1 (c5_18 s1) hp (by rw [e181]; exact ⟨by omega, by omega⟩) ?_))
  rw [e181]
  refine ⟨bI_rg, fun z => hno M (fun _ _ => rfl) (fun u => bI_0.mp z u.1), fun z => ?_⟩
  have u1 : isP M p := Classical.not_not.mp (fun u => z (bI_0.mpr u))
  refine s_hasC s1 (c5_18 s1) hq (by rw [e181]; exact ⟨by omega, by omega⟩) ?_
  rw [e181]
  refine ⟨bI_rg, fun z => hno M (fun _ _ => rfl) (fun u => bI_0.mp z u.2.1), fun z => ?_⟩
  have u2 : isP M q := Classical.not_not.mp (fun u => z (bI_0.mpr u))
  have u1' := u1.2
  have u2' := u2.2
  have p3 : 0 ≤ p ∧ p < 300 := ⟨u1.1, by omega⟩
  have q3 : 0 ≤ q ∧ q < 300 := ⟨u2.1, by omega⟩
  have a1 := (gp.2 p u1).1
  have b1 := (gp.2 q u2).1
  have a3 := (hxx.2.2 p u1).2
  have b3 := (hxx.2.2 q u2).2
  refine c_Tm_areAlike (c_Tm_areAlike_0 s1 (c5_18 s1) ⟨p3, q3, ?_⟩)
  rw [show M (18 + 2) p = M 69 p from (tP p u1).1, show M (18 + 2) q = M 69 q from (tP q u2).1, show M (18 + 7) p = M 73 p from (tP p u1).2.2.1, show M (18 + 7) q = M 73 q from (tP q u2).2.2.1]
  refine ⟨⟨⟨by omega, by omega⟩, ⟨by omega, by omega⟩⟩, fun y => ⟨⟨by omega, by omega⟩, fun x => absurd rfl x, fun _ => hno M (fun _ _ => rfl) (fun u => y u.2.2.2.1)⟩, fun y => ⟨p3, q3, ⟨⟨by omega, by omega⟩, ⟨by omega, by omega⟩⟩, fun x => ⟨⟨by omega, by omega⟩, fun w => absurd rfl w, fun _ => hno M (fun _ _ => rfl) (fun u => x u.2.2.2.2.1)⟩, fun x => ⟨⟨by omega, by omega⟩, fun _ => ?_, fun w => absurd (by decide) w⟩⟩⟩
  have y := Classical.not_not.mp y
  have x := Classical.not_not.mp x
  refine s_giveC (d := d + 7) s1 (fun M1 g1 g58 => ⟨p3, ?_⟩)
  rw [g1 20 (by decide), (tP p u1).1]
  have hA : ∀ j : Int, 0 ≤ j → j < 2 → isP M (pk3 j p q (-1)) := fun j j0 j1 => by
    have : j = 0 ∨ j = 1 := by omega
    rcases this with w | w
    · rw [w]; exact u1
    · rw [w]; exact u2
  refine s_addP (d := d + 6) (a := fun j => pk3 j p q (-1)) hr h1 hxx g1 (by omega) (fun j j0 j1 => g58 j j0 (by omega)) hA ⟨by omega, by omega⟩ ⟨by omega, by omega⟩ (fun z => hno M1 g1 (fun u => ?_)) (fun z1 z2 M2 had => ?_)
  · rcases z with z | z
    · omega
    · have z : 40 < 1 + M 72 p + M 72 q := z
      omega
  · rw [if_neg (by decide)] at had
    have z2 : 1 + M 72 p + M 72 q ≤ 40 := z2
    have g2 : ∀ j, ¬ (18 ≤ j ∧ j ≤ 27) → j ≠ 58 → M2 j = M j := fun j y1 y2 => by rw [had.1 j (by omega), g1 j y2]
    have e59 : M2 59 = M 59 := g2 59 (by omega) (by decide)
    have kk : rKp M M2 := ⟨fun cc c0 c1 => g2 cc (by omega) (by omega), by rw [e59], by rw [e59], by rw [e59], by rw [e59]⟩
    have r3 := rOK_s hr kk (g2 96 (by omega) (by decide)) (g2 97 (by omega) (by decide)) (g2 98 (by omega) (by decide))
    refine s_either_r (d := d + 7) s2 r3.1.1 r3.1.2.1 (rfX_k kk hxx) hp hq (fun w => ?_) (fun y1 y2 y3 y4 y5 y6 M3 hp3 => ?_)
    · unfold isP at w
      rw [e59, g2 69 (by omega) (by decide), g2 72 (by omega) (by decide), g2 73 (by omega) (by decide)] at w
      exact absurd ⟨u1, u2, z1, y, x, z2⟩ w
    · rw [g2 69 (by omega) (by decide), g2 72 (by omega) (by decide), g2 73 (by omega) (by decide)] at hp3
      rw [e59]
      obtain ⟨hg, hcl⟩ := pGr_of (M := M2) (n := 2) (a := fun j => pk3 j p q (-1)) (fun c y1 y2 => by rw [xrd y2, xrd y2, xrd y1]) (fun i hi => by rw [xrd (by decide), xrd (by decide), xri hi]) (fun j j0 j1 => by
        have : j = 0 ∨ j = 1 := by omega
        rcases this with w | w
        · rw [w, xri (by omega), show 3 * M2 59 18 + 0 = 3 * M2 59 18 by omega, xrs]; rfl
        · rw [w, xrs]; rfl) (fun i hi => by rw [xri (by omega), xri (by omega), xrd (by decide)]) hp3
      have := rel_pat (kd := 4) (t := M 69 p) (h := -1) (n := 2) (kind := 5) (own := 0) (a := fun j => pk3 j p q (-1)) hr h1 hw htl hxx hro z1 g1 had hg hcl a1 ⟨by omega, by omega⟩ (Or.inr (Or.inr (Or.inr (Or.inr ⟨rfl, rfl, rfl, rfl, rfl, y.symm, x⟩)))) hA rfl z2 ?_ ?_
      · exact ⟨rfl, ⟨by omega, by omega⟩, this⟩
      · show M 73 p = xor32 (xor32 0 (M 73 p)) (M 73 q)
        rw [← x]; exact (or_self a3).symm
      · show (1 : Int) = (if (if (if (5 : Int) = 5 then (1 : Int) else 0) ≠ 0 then (1 : Int) else if M 74 p = 0 then 0 else 1) ≠ 0 then 1 else if M 74 q = 0 then 0 else 1)
        rw [if_pos rfl]
        rw [if_pos (show (1 : Int) ≠ 0 by decide)]
        rw [if_pos (show (1 : Int) ≠ 0 by decide)]
end OPY
