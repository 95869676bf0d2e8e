/-! ===== both sides answer alike: check, took, part, plain ===== -/
section OPU
variable {e : yE} {d : Nat} {M : xM}
theorem rel_0 {v : Int} (h : Rel e M) : Rel e (xup M 59 0 v) ∧ (xup M 59 0 v) 0 = M 0 := by
  obtain ⟨cs, cl, h1, hr, hw, ht, hxx, hro⟩ := h
  have f3 : frR M (xup M 59 0 v) := frR_0 rfl
  refine ⟨rel_end hr h1 (fun _ _ _ => rfl) (fun cc i hc => f3 cc i (by omega)) (rKp_R f3) (rOK_0 hr (by omega)) (wkR_k hw (xrd (by decide)) (xrd (by decide)) (xrd (by decide))) (tlR_k ht (xrd (by decide)) (xrd (by decide)) (xrd (by decide)) (xri (by decide)) (xrd (by decide))) hxx hro, xrd (by decide)⟩
theorem op_took {x : Int} (h : Rel e M) (hd : 1200 ≤ d) (hx : rg x) : C_Mf_took e d x M (fun y M1 => R_took e d x M1 (fun y2 M2 => y = y2 ∧ rg y ∧ Rel e M2 ∧ M2 0 = M 0)) := by
  have h' := h
  obtain ⟨cs, cl, h1, hr, hw, ht, hxx, hro⟩ := h'
  obtain ⟨d, rfl⟩ : ∃ d', d = d' + 9 := ⟨d - 9, by omega⟩
  obtain ⟨r1, r2⟩ := rel_0 (v := 0) h
  have s1 := h1.1
  have s2 := h1.2.1
  refine c_Mf_took (c_Mf_took_0 s1 (s_isNameC s1 hx ⟨bI_rg, fun z => ⟨hx, fun y => ⟨hx, fun w => ?_, fun w => ?_⟩, fun y => ?_⟩, fun z => ?_⟩))
  · rw [bI_0] at z
    refine s_took s2 hx ?_
    rw [if_neg (by omega)]
    exact ⟨rfl, ⟨by omega, by omega⟩, r1, r2⟩
  · have w' : x = 17 := Classical.not_not.mp w
    subst w'
    refine s_took s2 hx ?_
    rw [if_pos (by omega), hw.2.2.1]
    exact ⟨rfl, hw.2.2.2 17 (by omega) (by omega), r1, r2⟩
  · have y' : x = 16 := Classical.not_not.mp y
    subst y'
    refine s_took s2 hx ?_
    rw [if_pos (by omega), hw.2.1]
    exact ⟨rfl, hw.2.2.2 16 (by omega) (by omega), r1, r2⟩
  · have z' : 0 ≤ x ∧ x < 16 := Classical.not_not.mp (fun u => z (bI_0.mpr u))
    refine ⟨z', s_took s2 hx ?_⟩
    rw [if_pos (by omega), hw.1 x z'.1 z'.2]
    exact ⟨rfl, hw.2.2.2 x (by omega) (by omega), r1, r2⟩
theorem op_part {x : Int} (h : Rel e M) (hd : 1200 ≤ d) (hx : rg x) : C_Mf_part e d x M (fun y M1 => R_part e d x M1 (fun y2 M2 => y = y2 ∧ rg y ∧ Rel e M2 ∧ M2 0 = M 0)) := by
  have h' := h
  obtain ⟨cs, cl, h1, hr, hw, ht, hxx, hro⟩ := h'
  obtain ⟨d, rfl⟩ : ∃ d', d = d' + 9 := ⟨d - 9, by omega⟩
  obtain ⟨r1, r2⟩ := rel_0 (v := 0) h
  have s1 := h1.1
  have s2 := h1.2.1
  obtain ⟨q0, q1, t01, t02, t03, t04, t05, t06⟩ := ht
  have hno : ¬ (0 ≤ x ∧ x < M 59 55) → R_part e (d + 9) x M (fun y2 M2 => -1 = y2 ∧ rg (-1) ∧ Rel e M2 ∧ M2 0 = M 0) := fun z => by
    refine s_part s2 hx t05 ?_
    rw [if_neg z]; exact ⟨rfl, ⟨by omega, by omega⟩, r1, r2⟩
  have yq : yA e q0 1 4000 := by rcases t01 with z | z; (rw [z.1]; exact caa_54 s1); (rw [z.1]; exact caa_55 s1)
  refine c_Mf_part (c_Mf_part_0 s1 ⟨hx, fun z => hno (by omega), fun z => ⟨⟨hx, by rw [t04]; exact ⟨by omega, by omega⟩⟩, fun y => hno (by omega), fun y => ⟨q0, 4000, ⟨t02, yq⟩, by omega, ?_⟩⟩⟩)
  have hxi : 0 ≤ x ∧ x < M 59 55 := by omega
  refine s_part s2 hx t05 ?_
  rw [if_pos hxi, (t06 x hxi.1 hxi.2).1]
  exact ⟨rfl, (t06 x hxi.1 hxi.2).2, r1, r2⟩
theorem op_plain {x : Int} (h : Rel e M) (hd : 1200 ≤ d) (hx : rg x) : C_Mf_plain e d x M (fun y M1 => R_plain e d x M1 (fun y2 M2 => y = y2 ∧ rg y ∧ Rel e M2 ∧ M2 0 = M 0)) := by
  have h' := h
  obtain ⟨cs, cl, h1, hr, hw, ht, hxx, hro⟩ := h'
  obtain ⟨d, rfl⟩ : ∃ d', d = d' + 9 := ⟨d - 9, by omega⟩
  obtain ⟨r1, r2⟩ := rel_0 (v := 0) h
  have s1 := h1.1
  have s2 := h1.2.1
  have hpl := h1.2.2.2.1.2.2.2.2.2.2.2
  have hty := h1.2.2.2.1.2.2.1
  have h8 := hr.1.2.1.1
  have e20 : M 2 0 = M 59 1 := hty.1
  refine c_Mf_plain (c_Mf_plain_0 s1 (s_isTypeC s1 hx (by rw [e20]; exact ⟨by omega, by omega⟩) ⟨bI_rg, fun z => ?_, fun z => ?_⟩))
  · rw [e20, bI_0] at z
    refine s_plain s2 hx (by omega) ?_
    rw [if_neg z]; exact ⟨rfl, ⟨by omega, by omega⟩, r1, r2⟩
  · have z' : 0 ≤ x ∧ x < M 59 1 := by have := Classical.not_not.mp (fun u => z (bI_0.mpr u)); rw [e20] at this; exact this
    refine ⟨by omega, s_plain s2 hx (by omega) ?_⟩
    have := hxx.1.2.1 x z'.1 (by omega)
    rw [if_pos z', hpl.1 x z'.1 (by omega)]
    exact ⟨rfl, ⟨by omega, by omega⟩, r1, r2⟩
/-- check() of the class: trees are made, nothing else is seen of it -/
theorem op_check (h : Rel e M) (hd : 1200 ≤ d) : C_Mf_check e d M (fun y e1 M1 => yLe e e1 ∧ R_check e1 d M1 (fun y2 M2 => y = y2 ∧ rg y ∧ Rel e1 M2 ∧ M2 0 = M 0)) := by
  obtain ⟨cs, cl, h1, hr, hw, ht, hxx, hro⟩ := h
  obtain ⟨d, rfl⟩ : ∃ d', d = d' + 9 := ⟨d - 9, by omega⟩
  have hr' := hr
  obtain ⟨hW, h20, hall, hV, h9⟩ := hr'
  have e14 : M 1 4 = M 59 25 := h1.2.2.2.1.2.2.2.2.2.1
  have key : ∀ (n x : Nat) (e1 : yE) (C : xM) (cs1 cl1 : Nat), (x : Int) + n = M 59 25 → cRel e1 C M cs1 cl1 → yLe e e1 → rmC e e1 cs cl cs1 cl1 → (∀ j, (j ≤ 28 ∨ (45 ≤ j ∧ j ≤ 47) ∨ j = 51 ∨ (53 ≤ j ∧ j ≤ 57) ∨ (59 ≤ j ∧ j ≤ 99)) → C j = M j) → C_Mf_check_2 e1 (d + 8) x C (fun y e1 M1 => yLe e e1 ∧ R_check e1 (d + 9) M1 (fun y2 M2 => y = y2 ∧ rg y ∧ Rel e1 M2 ∧ M2 0 = M 0)) := by
    intro n
    induction n with
    | zero =>
      intro x e1 C cs1 cl1 hx c1 l1 rm1 kp
      have s1 := c1.1
      have s2 := c1.2.1
      have q14 : C 1 4 = M 59 25 := by rw [kp 1 (by omega)]; exact e14
      refine c_Mf_check_2 s1 ⟨⟨⟨by omega, by omega⟩, by rw [q14]; exact ⟨by omega, by omega⟩⟩, fun _ => ⟨l1, s_check s2 ?_⟩, fun z => absurd (by rw [q14]; omega) z⟩
      have fM : ∀ j, 59 ≤ j → j ≤ 99 → C j = M j := fun j j0 j1 => kp j (by omega)
      have k1 : rKp M C := ⟨fun cc c0 c1 => fM cc (by omega) (by omega), by rw [fM 59 (by omega) (by omega)], by rw [fM 59 (by omega) (by omega)], by rw [fM 59 (by omega) (by omega)], by rw [fM 59 (by omega) (by omega)]⟩
      have hr1 : rOK C := rOK_s hr k1 (fM 96 (by omega) (by omega)) (fM 97 (by omega) (by omega)) (fM 98 (by omega) (by omega))
      have f3 : frR C (xup C 59 0 0) := frR_0 rfl
      refine ⟨rfl, ⟨by omega, by omega⟩, rel_end hr c1 fM (fun cc i hc => f3 cc i (by omega)) (rKp_R f3) (rOK_0 hr1 (by omega)) (wkR_k hw ?_ ?_ ?_) (tlR_k ht ?_ ?_ ?_ ?_ ?_) hxx (rom_rm hro rm1 rfl), ?_⟩
      · rw [xrd (by decide), kp 45 (by omega)]
      · rw [xrd (by decide), kp 46 (by omega)]
      · rw [xrd (by decide), kp 81 (by omega)]
      · rw [xrd (by decide), kp 53 (by omega)]
      · rw [xrd (by decide), kp 54 (by omega)]
      · rw [xrd (by decide), kp 55 (by omega)]
      · rw [xri (by decide), kp 59 (by omega)]
      · rw [xrd (by decide), kp 99 (by omega)]
      · rw [xrd (by decide), kp 0 (by omega)]
    | succ n ih =>
      intro x e1 C cs1 cl1 hx c1 l1 rm1 kp
      have s1 := c1.1
      have q14 : C 1 4 = M 59 25 := by rw [kp 1 (by omega)]; exact e14
      obtain ⟨mq, m1, m2, m3, m4, m5, m6, m7⟩ := c1.2.2.2.2.1 x (by omega) (by omega)
      have hO := (hall x (by omega) (by omega)).1
      refine c_Mf_check_2 s1 ⟨⟨⟨by omega, by omega⟩, by rw [q14]; exact ⟨by omega, by omega⟩⟩, fun z => absurd z (by rw [q14]; omega), fun _ => ⟨by omega, mq, ⟨m1, m2⟩, ?_⟩⟩
      refine s_oneType (D := M) (d := d + 7) s1 hO.1 hW.2.1 m2 m4 (fun hone => ⟨⟨by omega, by omega⟩, fun z => absurd z (by decide), fun _ => ?_⟩) ⟨⟨by omega, by omega⟩, fun _ => ih (x + 1) e1 C cs1 cl1 (by omega) c1 l1 rm1 kp, fun z => absurd rfl z⟩
      refine s_standsR (d := d) hr c1 (by omega) (by omega) m1 (fun hn e' C' cs' cl' c2 l2 rm2 kp2 => ⟨l2, ⟨by omega, by omega⟩, fun _ => ih (x + 1) e' C' cs' cl' (by omega) c2 (l1.tr l2) (rmC_trans rm1 rm2) (fun j hj => by rw [kp2 j (by omega)]; exact kp j hj), fun z => absurd rfl z⟩) (fun evs nd pi e' C' cs' cl' hT c2 l2 rm2 kp2 => ⟨l2, ⟨by omega, by omega⟩, fun z => absurd z (by decide), fun _ => ?_⟩)
      obtain ⟨mq', n1, n2, n3, n4, n5, n6, n7⟩ := c2.2.2.2.2.1 x (by omega) (by omega)
      have hmm' : mq' = mq := by
        have : (mq' : Int) = mq := by rw [← n1, kp2 28 (by omega)]; exact m1
        omega
      subst hmm'
      have st2 := c2.2.2.2.1
      refine s_agrees (D := M) c2.1 hW hO (by omega) n2 n3 hone hT st2.1 st2.2.1 st2.2.2.2.1 st2.2.2.2.2.1 n4 n5 (fun C3 g3 => ⟨⟨by omega, by omega⟩, fun _ => ?_, fun z => absurd (by decide) z⟩)
      have c3 : cRel e' C3 M cs' cl' := cRel_k hr (fun cc hc => g3 cc (by omega) (by omega) (by omega) (by omega) (by omega)) rKp_rf c2
      exact ih (x + 1) e' C3 cs' cl' (by omega) c3 (l1.tr l2) (rmC_trans rm1 rm2) (fun j hj => by rw [g3 j (by omega) (by omega) (by omega) (by omega) (by omega), kp2 j (by omega)]; exact kp j hj)
  exact c_Mf_check (c_Mf_check_0 h1.1 (key (M 59 25).toNat 0 e M cs cl (by omega) h1 yLe.rf rmC_refl (fun _ _ => rfl)))
end OPU
