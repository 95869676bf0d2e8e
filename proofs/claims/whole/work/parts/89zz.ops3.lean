/-! ===== both sides answer alike: missing, check, took, part, plain ===== -/
section OPT
variable {e : yE} {d : Nat} {M : xM}
theorem msT_k {D D' : xM} {m : Int} {v : aV} (h : rKp D D') : msT D' m v = msT D m v := by
  unfold msT
  rw [h.1 75 (by omega) (by omega)]
  have : tx D' v.2.2 400 = tx D v.2.2 400 := funext fun q => tx_c (m := m) (cng_K h) 400 q
  rw [this]
theorem rKp_M {M1 : xM} (h : frM M M1) : rKp M M1 := ⟨fun c c0 c1 => funext fun i => h c i (by omega), h 59 1 (by omega), h 59 10 (by omega), h 59 18 (by omega), h 59 25 (by omega)⟩
/-- the first failure is one -/
theorem ff_one {evs pre post pre' post' : List aV} {v v' : aV} (h1 : evs = pre ++ v :: post) (h2 : v.1 = 3) (h3 : cntK 3 pre = 0) (g1 : evs = pre' ++ v' :: post') (g2 : v'.1 = 3) (g3 : cntK 3 pre' = 0) : v = v' := by
  subst h1
  induction pre generalizing pre' with
  | nil =>
    cases pre' with
    | nil => exact (List.cons.inj g1).1
    | cons y l =>
      have e : v = y := (List.cons.inj g1).1
      have : (if y.1 = 3 then 1 else 0) + cntK 3 l = 0 := g3
      rw [← e, if_pos h2] at this; omega
  | cons x pre ih =>
    have hx : (if x.1 = 3 then 1 else 0) + cntK 3 pre = 0 := h3
    cases pre' with
    | nil =>
      have e : x = v' := (List.cons.inj g1).1
      rw [e, if_pos g2] at hx; omega
    | cons y l =>
      have hy : (if y.1 = 3 then 1 else 0) + cntK 3 l = 0 := g3
      exact ih (by omega) (show cntK 3 l = 0 by omega) (List.cons.inj g1).2
theorem cnt_split {evs pre post : List aV} {v : aV} (h1 : evs = pre ++ v :: post) (h2 : v.1 = 3) : cntK 3 evs ≠ 0 := by
  subst h1
  induction pre with
  | nil => show (if v.1 = 3 then 1 else 0) + cntK 3 post ≠ 0; rw [if_pos h2]; omega
  | cons x pre ih => show (if x.1 = 3 then 1 else 0) + cntK 3 (pre ++ v :: post) ≠ 0; omega
theorem op_missing {m : Int} (h : Rel e M) (hd : 1200 ≤ d) (hm : rg m) : C_Mf_missing e d m M (fun y e1 M1 => yLe e e1 ∧ R_missing e1 d m M1 (fun y2 M2 => y = y2 ∧ rg y ∧ Rel e1 M2 ∧ M2 0 = M 0)) := by
  obtain ⟨cs, cl, h1, hr, hw, ht, hxx, hro⟩ := h
  obtain ⟨d, rfl⟩ : ∃ d', d = d' + 9 := ⟨d - 9, by omega⟩
  have hr' := hr
  obtain ⟨hW, h20, hall, hV, h9⟩ := hr'
  obtain ⟨gp, gt, gv, gb, ge⟩ := hW
  have h1' := h1
  obtain ⟨s1, s2, s3, s4, s5, s6, s7⟩ := h1'
  have e14 : M 1 4 = M 59 25 := s4.2.2.2.2.2.1
  refine c_Mf_missing (c_Mf_missing_0 s1 (s_isMatchC s1 hm (by rw [e14]; exact ⟨by omega, by omega⟩) ⟨bI_rg, fun z => ?_, fun z => ?_⟩))
  · have hmm : 0 ≤ m ∧ m < M 59 25 := by
      have := Classical.not_not.mp (fun u => z (bI_0.mpr u))
      rw [e14] at this; exact this
    have hO := (hall m hmm.1 hmm.2).1
    have hVV := hV (by omega)
    obtain ⟨mq, m1, m2, m3, m4, m5, m6, m7⟩ := s5 m hmm.1 hmm.2
    refine ⟨by omega, mq, ⟨m1, m2⟩, ?_⟩
    refine s_standsR hr h1 hmm.1 hmm.2 m1 (fun hn e' C' cs' cl' c2 l2 rm2 kp2 => ⟨l2, ⟨by omega, by omega⟩, fun _ => ⟨l2, ?_⟩, fun z => absurd rfl z⟩) (fun evs nd pi e' C' cs' cl' hT c2 l2 rm2 kp2 => ⟨l2, ⟨by omega, by omega⟩, fun z => absurd z (by decide), fun _ => ⟨by omega, mq, ⟨by rw [kp2 28 (by omega)]; exact m1, m2.le l2⟩, ?_⟩⟩)
    · -- too large
      have fM : ∀ j, 59 ≤ j → j ≤ 99 → C' j = M j := fun j j0 j1 => kp2 j (by omega)
      have k2 : rKp M C' := ⟨fun cc c0 c1 => fM cc (by omega) (by omega), by rw [fM 59 (by omega) (by omega)], by rw [fM 59 (by omega) (by omega)], by rw [fM 59 (by omega) (by omega)], by rw [fM 59 (by omega) (by omega)]⟩
      have hr2 : rOK C' := rOK_s hr k2 (fM 96 (by omega) (by omega)) (fM 97 (by omega) (by omega)) (fM 98 (by omega) (by omega))
      have hfin : fin_ C' m 120 [root C' m] = fin_ M m 120 [root M m] := fin_cg gp gt hO.1 (cng_K k2)
      refine s_missing_r (RSh_le s2 l2) (by omega) hr2 hm (fun hz => absurd (by rw [k2.2.2.2.2]; exact hmm) hz) (fun _ _ M3 f3 t1 t2 => ⟨rfl, ⟨by omega, by omega⟩, rel_end hr c2 fM (fun cc i hc => f3 cc i (by omega)) (rKp_M f3) (rOK_M hr2 f3) (wkR_k hw ?_ ?_ ?_) (tlR_k ht ?_ ?_ ?_ ?_ ?_) hxx (rom_rm hro rm2 rfl), ?_⟩) (fun _ evs he => by rw [hfin, hn] at he; cases he) (fun _ evs pre v post he => by rw [hfin, hn] at he; cases he)
      · exact (funext fun i => f3 45 i (by omega)).trans (kp2 45 (by omega))
      · exact (funext fun i => f3 46 i (by omega)).trans (kp2 46 (by omega))
      · exact (funext fun i => f3 81 i (by omega)).trans (kp2 81 (by omega))
      · exact (funext fun i => f3 53 i (by omega)).trans (kp2 53 (by omega))
      · exact (funext fun i => f3 54 i (by omega)).trans (kp2 54 (by omega))
      · exact (funext fun i => f3 55 i (by omega)).trans (kp2 55 (by omega))
      · rw [t1, fM 59 (by omega) (by omega)]
      · rw [t2, fM 99 (by omega) (by omega)]
      · exact (funext fun i => f3 0 i (by omega)).trans (kp2 0 (by omega))
    · -- a text
      obtain ⟨mq', n1, n2, n3, n4, n5, n6, n7⟩ := c2.2.2.2.2.1 m hmm.1 hmm.2
      have hmm' : mq' = mq := by
        have : (mq' : Int) = mq := by rw [← n1, kp2 28 (by omega)]; exact m1
        omega
      subst hmm'
      obtain ⟨q0, q1, t01, t02, t03, t04, t05, t06⟩ := ht
      have hs' := c2.1
      have hpl := c2.2.2.2.1.2.2.2.2.2.2.2
      -- the class's change, and the reference behind it
      have go : ∀ (M3 : xM), (∀ j, j ≠ 53 → j ≠ 56 → j ≠ 57 → j ≠ q1 → M3 j = C' j) → (∀ j, 59 ≤ j → j ≤ 99 → M3 j = M j) ∧ rKp M M3 ∧ rOK M3 ∧ fin_ M3 m 120 [root M3 m] = some evs ∧ (∀ v, msT M3 m v = msT M m v) ∧ cRel e' M3 M cs' cl' ∧ M3 45 = M 45 ∧ M3 46 = M 46 ∧ M3 0 = M 0 := by
        intro M3 g
        have fM : ∀ j, 59 ≤ j → j ≤ 99 → M3 j = M j := fun j j0 j1 => by rw [g j (by omega) (by omega) (by omega) (by omega), kp2 j (by omega)]
        have k3 : rKp M M3 := ⟨fun cc c0 c1 => fM cc (by omega) (by omega), by rw [fM 59 (by omega) (by omega)], by rw [fM 59 (by omega) (by omega)], by rw [fM 59 (by omega) (by omega)], by rw [fM 59 (by omega) (by omega)]⟩
        exact ⟨fM, k3, rOK_s hr k3 (fM 96 (by omega) (by omega)) (fM 97 (by omega) (by omega)) (fM 98 (by omega) (by omega)), by rw [fin_cg gp gt hO.1 (cng_K k3)]; exact hT.1, fun v => msT_k k3, cRel_k hr (fun cc hc => g cc (by omega) (by omega) (by omega) (by omega)) rKp_rf c2, by rw [g 45 (by decide) (by decide) (by decide) (by omega), kp2 45 (by omega)], by rw [g 46 (by decide) (by decide) (by decide) (by omega), kp2 46 (by omega)], by rw [g 0 (by decide) (by decide) (by decide) (by omega), kp2 0 (by omega)]⟩
      refine s_tell_c (d := d + 3) (q0 := q0) (q1 := q1) hs' n2 n3 gp gt hVV hO.1 c2.2.2.2.1.2.2.1 ⟨hpl.2.1, hpl.2.2.1⟩ n4.1 hT t01 (by rw [kp2 53 (by omega)]; exact t02) (by rw [kp2 53 (by omega)]; exact t03) (fun hz => ⟨l2, ?_⟩) (fun pre v post b1 b2 b3 b4 M3 g1 g2 g3 g4 g5 g6 g7 => ⟨l2, ?_⟩) (fun pre v post b1 b2 b3 b4 M3 g1 => ⟨l2, ?_⟩)
      · -- nothing is missing
        obtain ⟨fM, k3, hr3, hfin, hms, c3, w45, w46, w0⟩ := go (xup C' 53 3 0) (fun j y1 _ _ _ => xrd y1)
        refine s_missing_r (RSh_le s2 l2) (by omega) hr3 hm (fun hz => absurd (by rw [k3.2.2.2.2]; exact hmm) hz) (fun _ hb => ?_) (fun _ evs' he hz' M4 f4 t1 => ⟨rfl, ⟨by omega, by omega⟩, rel_end hr c3 fM (fun cc i hc => f4 cc i (by omega)) (rKp_M f4) (rOK_M hr3 f4) (wkR_k hw ?_ ?_ ?_) ⟨q0, q1, t01, ?_, ?_, ?_, ?_, ?_⟩ hxx (rom_rm hro rm2 rfl), ?_⟩) (fun _ evs' pre v post he b1 b2 => ?_)
        · exfalso
          rcases hb with y | ⟨evs', pre, v, post, he, b1, b2, -⟩
          · rw [hfin] at y; cases y
          · rw [hfin] at he; have := Option.some.inj he; subst this
            exact cnt_split b1 b2 hz
        · exact (funext fun i => f4 45 i (by omega)).trans w45
        · exact (funext fun i => f4 46 i (by omega)).trans w46
        · exact (funext fun i => f4 81 i (by omega)).trans (fM 81 (by omega) (by omega))
        · rw [f4 53 1 (by omega), xri (by decide), kp2 53 (by omega)]; exact t02
        · rw [f4 53 2 (by omega), xri (by decide), kp2 53 (by omega)]; exact t03
        · rw [f4 53 3 (by omega), xrs, t1]
        · rw [t1]; decide
        · intro i i0 i1; rw [t1] at i1; omega
        · exact (funext fun i => f4 0 i (by omega)).trans w0
        · exfalso
          rw [hfin] at he; have := Option.some.inj he; subst this
          exact cnt_split b1 b2 hz
      · -- something is
        obtain ⟨fM, k3, hr3, hfin, hms, c3, w45, w46, w0⟩ := go M3 g1
        have b4' : (msT M m v).length ≤ 4000 := b4
        refine s_missing_r (RSh_le s2 l2) (by omega) hr3 hm (fun hz => absurd (by rw [k3.2.2.2.2]; exact hmm) hz) (fun _ hb => ?_) (fun _ evs' he hz' => ?_) (fun _ evs' pre' v' post' he b1' b2' b3' b4'' M4 f4 t1 t2 => ?_)
        · exfalso
          rcases hb with y | ⟨evs', pre', v', post', he, b1', b2', b3', b4''⟩
          · rw [hfin] at y; cases y
          · rw [hfin] at he; have := Option.some.inj he; subst this
            have := ff_one b1 b2 b3 b1' b2' b3'
            subst this
            rw [hms] at b4''; omega
        · exfalso
          rw [hfin] at he; have := Option.some.inj he; subst this
          exact cnt_split b1 b2 hz'
        · rw [hfin] at he; have := Option.some.inj he; subst this
          have := ff_one b1 b2 b3 b1' b2' b3'
          subst this
          rw [hms] at t1 t2 ⊢
          have g5 : M3 53 3 = ((msT M m v).length : Int) := g5
          have g6 : ∀ (j : Nat) x, (msT M m v)[j]? = some x → M3 q1 j = x := g6
          refine ⟨rfl, by exact ⟨by omega, by omega⟩, rel_end hr c3 fM (fun cc i hc => f4 cc i (by omega)) (rKp_M f4) (rOK_M hr3 f4) (wkR_k hw ?_ ?_ ?_) ⟨q1, q0, by omega, ?_, ?_, ?_, ?_, ?_⟩ hxx (rom_rm hro rm2 rfl), ?_⟩
          · exact (funext fun i => f4 45 i (by omega)).trans w45
          · exact (funext fun i => f4 46 i (by omega)).trans w46
          · exact (funext fun i => f4 81 i (by omega)).trans (fM 81 (by omega) (by omega))
          · rw [f4 53 1 (by omega)]; exact g3
          · rw [f4 53 2 (by omega)]; exact g4
          · rw [f4 53 3 (by omega), g5, t1]
          · rw [t1]; omega
          · intro i i0 i1
            rw [t1] at i1
            obtain ⟨j, hj⟩ : ∃ j : Nat, i = j := ⟨i.toNat, by omega⟩
            subst hj
            obtain ⟨xx, hxj⟩ : ∃ xx, (msT M m v)[j]? = some xx := ⟨_, List.getElem?_eq_getElem (by omega)⟩
            refine ⟨by rw [f4 q1 j (by omega), g6 j xx hxj, t2 j xx hxj], ?_⟩
            rw [t2 j xx hxj]
            exact g7 xx (List.mem_of_getElem? hxj)
          · exact (funext fun i => f4 0 i (by omega)).trans w0
      · -- more than can be told
        obtain ⟨fM, k3, hr3, hfin, hms, c3, w45, w46, w0⟩ := go M3 (fun j _ y2 y3 y4 => g1 j y2 y3 y4)
        have b4' : 4000 < (msT M m v).length := b4
        have g53 : M3 53 = M 53 := by rw [g1 53 (by decide) (by decide) (by omega), kp2 53 (by omega)]
        refine s_missing_r (RSh_le s2 l2) (by omega) hr3 hm (fun hz => absurd (by rw [k3.2.2.2.2]; exact hmm) hz) (fun _ _ M4 f4 t1 t2 => ⟨rfl, ⟨by omega, by omega⟩, rel_end hr c3 fM (fun cc i hc => f4 cc i (by omega)) (rKp_M f4) (rOK_M hr3 f4) (wkR_k hw ?_ ?_ ?_) ⟨q0, q1, t01, ?_, ?_, ?_, ?_, ?_⟩ hxx (rom_rm hro rm2 rfl), ?_⟩) (fun _ evs' he hz' => ?_) (fun _ evs' pre' v' post' he b1' b2' b3' b4'' => ?_)
        · exact (funext fun i => f4 45 i (by omega)).trans w45
        · exact (funext fun i => f4 46 i (by omega)).trans w46
        · exact (funext fun i => f4 81 i (by omega)).trans (fM 81 (by omega) (by omega))
        · rw [f4 53 1 (by omega), g53]; exact t02
        · rw [f4 53 2 (by omega), g53]; exact t03
        · rw [f4 53 3 (by omega), g53, t1, fM 59 (by omega) (by omega)]; exact t04
        · rw [t1, fM 59 (by omega) (by omega)]; exact t05
        · intro i i0 i1
          rw [t1, fM 59 (by omega) (by omega)] at i1
          rw [f4 q0 i (by omega), g1 q0 (by omega) (by omega) (by omega), kp2 q0 (by omega), t2, fM 99 (by omega) (by omega)]
          exact t06 i i0 i1
        · exact (funext fun i => f4 0 i (by omega)).trans w0
        · exfalso
          rw [hfin] at he; have := Option.some.inj he; subst this
          exact cnt_split b1 b2 hz'
        · exfalso
          rw [hfin] at he; have := Option.some.inj he; subst this
          have := ff_one b1 b2 b3 b1' b2' b3'
          subst this
          rw [hms] at b4''; omega
  · have z' : ¬ (0 ≤ m ∧ m < M 59 25) := by
      have := bI_0.mp (Classical.not_not.mp z)
      rw [e14] at this; exact this
    refine ⟨yLe.rf, s_missing_r s2 (by omega) hr hm (fun _ M3 f3 t1 t2 => ⟨rfl, ⟨by omega, by omega⟩, rel_end hr h1 (fun _ _ _ => rfl) (fun cc i hc => f3 cc i (by omega)) (rKp_M f3) (rOK_M hr f3) (wkR_k hw (funext fun i => f3 45 i (by omega)) (funext fun i => f3 46 i (by omega)) (funext fun i => f3 81 i (by omega))) (tlR_k ht (funext fun i => f3 53 i (by omega)) (funext fun i => f3 54 i (by omega)) (funext fun i => f3 55 i (by omega)) t1 t2) hxx hro, funext fun i => f3 0 i (by omega)⟩) (fun hz => absurd hz z') (fun hz => absurd hz z') (fun hz => absurd hz z')⟩
end OPT
