/-! ===== both sides answer alike: tree, took, part, plain ===== -/
section OPS
variable {e : yE} {d : Nat} {M : xM}
theorem i32_rg (x : Int32) : rg x.toInt := by
  have h1 := Int32.le_toInt x
  have h2 := Int32.toInt_lt x
  exact ⟨by omega, by omega⟩
theorem xor32_rg {a b : Int} : rg (xor32 a b) := i32_rg _
theorem ndM_rg : ∀ (evs : List aV) (x : Int), rg x → rg (ndM x evs) := by
  intro evs
  induction evs with
  | nil => intro x h; exact h
  | cons v l ih =>
    intro x h
    show rg (ndM (if v.1 = 1 ∨ v.1 = 2 then xor32 x (xshl32 1 v.2.1) else x) l)
    refine ih _ ?_
    split
    · exact xor32_rg
    · exact h
theorem fin_evl {D : xM} {m : Int} : ∀ (n : Nat) (S : List aN) (evs : List aV), fin_ D m n S = some evs → evs.length ≤ n := by
  intro n
  induction n with
  | zero =>
    intro S evs h
    cases S with
    | nil => have := Option.some.inj ((fin_nil (D := D) (m := m) (n := 0)).symm.trans h); subst this; exact Nat.le_refl _
    | cons a S => cases h
  | succ n ih =>
    intro S evs h
    cases S with
    | nil => have := Option.some.inj ((fin_nil (D := D) (m := m) (n := n + 1)).symm.trans h); subst this; exact Nat.zero_le _
    | cons a S =>
      cases hq : shp D a.1 a.2.1 a.2.2.2.2 with
      | none => rw [show fin_ D m (n + 1) (a :: S) = none from fin_over (np := a.2.2.1) (E := a.2.2.2.1) hq] at h; cases h
      | some q =>
        have e : fin_ D m (n + 1) (a :: S) = _ := fin_some (m := m) (np := a.2.2.1) (E := a.2.2.2.1) (S := S) (n := n) hq
        rw [e] at h
        cases hf : fin_ D m n (chd D m a.1 a.2.1 a.2.2.1 a.2.2.2.1 q.1 q.2 ++ S) with
        | none => rw [hf] at h; cases h
        | some l =>
          rw [hf] at h
          have := Option.some.inj h
          subst this
          have := ih _ l hf
          rw [List.length_cons]; omega
theorem cntK_le {k : Int} : ∀ evs : List aV, cntK k evs ≤ evs.length := by
  intro evs
  induction evs with
  | nil => exact Nat.le_refl _
  | cons v l ih =>
    show (if v.1 = k then 1 else 0) + cntK k l ≤ l.length + 1
    split <;> omega
theorem tlR_k {C D C' D' : xM} (h : tlR C D) (q1 : C' 53 = C 53) (q2 : C' 54 = C 54) (q3 : C' 55 = C 55) (q4 : D' 59 55 = D 59 55) (q5 : D' 99 = D 99) : tlR C' D' := by
  obtain ⟨q0, q1', t1, t2, t3, t4, t5, t6⟩ := h
  refine ⟨q0, q1', t1, by rw [q1]; exact t2, by rw [q1]; exact t3, by rw [q1, q4]; exact t4, by rw [q4]; exact t5, fun i i0 i1 => ?_⟩
  rw [q4] at i1
  rw [q5]
  refine ⟨?_, (t6 i i0 i1).2⟩
  rw [← (t6 i i0 i1).1]
  rcases t1 with z | z
  · rw [z.1, q2]
  · rw [z.1, q3]
theorem wkR_k {C D C' D' : xM} (h : wkR C D) (q1 : C' 45 = C 45) (q2 : C' 46 = C 46) (q3 : D' 81 = D 81) : wkR C' D' := by
  unfold wkR; rw [q1, q2, q3]; exact h
theorem op_tree {m x : Int} (h : Rel e M) (hd : 1200 ≤ d) (hm : rg m) (hx : rg x) : C_Mf_tree e d m x M (fun y e1 M1 => yLe e e1 ∧ R_tree e1 d m x M1 (fun y2 M2 => y = y2 ∧ rg y ∧ Rel e1 M2 ∧ M2 0 = M 0)) := by
  obtain ⟨cs, cl, h1, hr, hw, ht, hxx, hro⟩ := h
  obtain ⟨d, rfl⟩ : ∃ d', d = d' + 9 := ⟨d - 9, by omega⟩
  have hr' := hr
  obtain ⟨hW, h20, hall, hV, h9⟩ := hr'
  obtain ⟨gp, gt, gv, gb, ge⟩ := hW
  have h1' := h1
  obtain ⟨s1, s2, s3, s4, s5, s6, s7⟩ := h1'
  have e14 : M 1 4 = M 59 25 := s4.2.2.2.2.2.1
  -- the reference has nothing to tell
  have none_ : ¬ ((0 ≤ m ∧ m < M 59 25) ∧ 0 ≤ x ∧ x ≤ 4) → yLe e e ∧ R_tree e (d + 9) m x M (fun y2 M2 => -1 = y2 ∧ rg (-1) ∧ Rel e M2 ∧ M2 0 = M 0) := fun hz =>
    ⟨yLe.rf, s_tree_r s2 (by omega) hr hm hx (fun _ M3 f3 r3 t1 => ⟨rfl, ⟨by omega, by omega⟩, rel_end hr h1 (fun _ _ _ => rfl) (fun cc i hc => f3 cc i (by omega)) (rKp_R f3) r3 (wkR_k hw (frR_c f3 45 (by omega)) (frR_c f3 46 (by omega)) t1) (tlR_k ht (frR_c f3 53 (by omega)) (frR_c f3 54 (by omega)) (frR_c f3 55 (by omega)) (f3 59 55 (by omega)) (frR_c f3 99 (by omega))) hxx hro, frR_c f3 0 (by omega)⟩) (fun a b => absurd ⟨a, b⟩ hz) (fun a b => absurd ⟨a, b⟩ hz)⟩
  refine c_Mf_tree (c_Mf_tree_0 s1 (s_isMatchC s1 hm (by rw [e14]; exact ⟨by omega, by omega⟩) ⟨bI_rg, fun z => ?_, fun z => ⟨hx, fun y => none_ (fun w => by omega), fun y => ⟨hx, fun w => ?_, fun w => none_ (fun w' => by omega)⟩⟩⟩))
  · rw [e14, bI_0] at z
    exact none_ (fun w => z w.1)
  · have hmm : 0 ≤ m ∧ m < M 59 25 := by
      have := Classical.not_not.mp (fun u => z (bI_0.mpr u))
      rw [e14] at this; exact this
    have hO := (hall m hmm.1 hmm.2).1
    obtain ⟨mq, m1, m2, m3, m4, m5, m6, m7⟩ := s5 m hmm.1 hmm.2
    refine ⟨by omega, mq, ⟨m1, m2⟩, ?_⟩
    have fin : ∀ e' C' cs' cl', cRel e' C' M cs' cl' → rmC e e' cs cl cs' cl' → kpX M C' → (∀ j, 59 ≤ j → j ≤ 99 → C' j = M j) ∧ rOK C' ∧ fin_ C' m 120 [root C' m] = fin_ M m 120 [root M m] ∧ C' 59 25 = M 59 25 ∧ ∀ M3, frR C' M3 → rOK M3 → M3 81 = C' 81 → Rel e' M3 ∧ M3 0 = M 0 := by
      intro e' C' cs' cl' c2 rm2 kp2
      have fM : ∀ j, 59 ≤ j → j ≤ 99 → C' j = M j := fun j j0 j1 => kp2 j (by omega)
      have k2 : rKp M C' := ⟨fun cc c0 c1 => fM cc (by omega) (by omega), by rw [fM 59 (by omega) (by omega)], by rw [fM 59 (by omega) (by omega)], by rw [fM 59 (by omega) (by omega)], by rw [fM 59 (by omega) (by omega)]⟩
      refine ⟨fM, rOK_s hr k2 (fM 96 (by omega) (by omega)) (fM 97 (by omega) (by omega)) (fM 98 (by omega) (by omega)), fin_cg gp gt hO.1 (cng_K k2), k2.2.2.2.2, fun M3 f3 r3 t1 => ⟨?_, by rw [frR_c f3 0 (by omega), kp2 0 (by omega)]⟩⟩
      exact rel_end hr c2 fM (fun cc i hc => f3 cc i (by omega)) (rKp_R f3) r3 (wkR_k hw (by rw [frR_c f3 45 (by omega), kp2 45 (by omega)]) (by rw [frR_c f3 46 (by omega), kp2 46 (by omega)]) (by rw [t1, fM 81 (by omega) (by omega)])) (tlR_k ht (by rw [frR_c f3 53 (by omega), kp2 53 (by omega)]) (by rw [frR_c f3 54 (by omega), kp2 54 (by omega)]) (by rw [frR_c f3 55 (by omega), kp2 55 (by omega)]) (by rw [f3 59 55 (by omega), fM 59 (by omega) (by omega)]) (by rw [frR_c f3 99 (by omega), fM 99 (by omega) (by omega)])) hxx (rom_rm hro rm2 rfl)
    refine s_standsR hr h1 hmm.1 hmm.2 m1 (fun hn e' C' cs' cl' c2 l2 rm2 kp2 => ⟨l2, ⟨by omega, by omega⟩, fun z => absurd rfl z, fun _ => ⟨l2, ?_⟩⟩) (fun evs nd pi e' C' cs' cl' hT c2 l2 rm2 kp2 => ⟨l2, ⟨by omega, by omega⟩, fun _ => ⟨by omega, mq, ⟨by rw [kp2 28 (by omega)]; exact m1, m2.le l2⟩, hx, fun y4 => ⟨by omega, l2, ?_⟩, fun y4 => ⟨l2, ?_⟩⟩, fun z => absurd (by decide) z⟩)
    · obtain ⟨fM, hr2, hfin, e25, fend⟩ := fin e' C' cs' cl' c2 rm2 kp2
      refine s_tree_r (RSh_le s2 l2) (by omega) hr2 hm hx (fun hz => absurd ⟨by rw [e25]; exact hmm, by omega⟩ hz) (fun _ _ _ M3 f3 r3 t1 => ⟨rfl, ⟨by omega, by omega⟩, fend M3 f3 r3 t1⟩) (fun _ _ evs he => by rw [hfin, hn] at he; cases he)
    · obtain ⟨fM, hr2, hfin, e25, fend⟩ := fin e' C' cs' cl' c2 rm2 kp2
      have htl : C' (mq + 6) x = (cntK x evs : Int) := hT.2.2.2.2.1 x (by omega) (by omega)
      rw [htl]
      have hb := fin_evl _ _ _ hT.1
      have hb2 := cntK_le (k := x) evs
      refine s_tree_r (RSh_le s2 l2) (by omega) hr2 hm hx (fun hz => absurd ⟨by rw [e25]; exact hmm, by omega⟩ hz) (fun _ _ hz => by rw [hfin, hT.1] at hz; cases hz) (fun _ _ evs' he M3 f3 r3 t1 => ?_)
      rw [hfin, hT.1] at he
      have he' := Option.some.inj he
      subst he'
      exact ⟨by rw [if_neg y4], ⟨by omega, by omega⟩, fend M3 f3 r3 t1⟩
    · obtain ⟨fM, hr2, hfin, e25, fend⟩ := fin e' C' cs' cl' c2 rm2 kp2
      have hnd : C' (mq + 5) 2 = ndM 0 evs := hT.2.2.2.2.2.1
      rw [hnd]
      have y4' : x = 4 := Classical.not_not.mp y4
      refine s_tree_r (RSh_le s2 l2) (by omega) hr2 hm hx (fun hz => absurd ⟨by rw [e25]; exact hmm, by omega⟩ hz) (fun _ _ hz => by rw [hfin, hT.1] at hz; cases hz) (fun _ _ evs' he M3 f3 r3 t1 => ?_)
      rw [hfin, hT.1] at he
      have he' := Option.some.inj he
      subst he'
      exact ⟨by rw [if_pos y4'], ndM_rg _ _ ⟨by omega, by omega⟩, fend M3 f3 r3 t1⟩
end OPS
