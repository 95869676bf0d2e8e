/-! ===== both sides answer alike: type ===== -/
section OPW
variable {e : yE} {d : Nat} {M : xM}
/-- all is put together again -/
theorem rel_mk {cs cl : Nat} {M1 M2 : xM} (hr : rOK M) (h1 : cRel e M M cs cl) (hC : ∀ c, (c = 28 ∨ 99 < c ∨ (30 ≤ c ∧ c ≤ 37) ∨ c = 0) → M2 c = M c) (h25 : M2 59 25 = M 59 25) (hc : ∀ x, 0 ≤ x → x < M 59 25 → cng M M2 x) (hst : stc M2 M2) (hW : wOK M2) (h74 : ∀ p, isP M p → M2 74 p = M 74 p) (h96 : M2 96 = M 96) (h97 : M2 97 = M 97) (h98 : M2 98 = M 98) (hV : 0 < M 59 25 → wfV M2) (h79 : M2 79 = M 79) (h80 : M2 80 = M 80) (hw : wkR M M) (ht : tlR M M) (q45 : M2 45 = M 45) (q46 : M2 46 = M 46) (q81 : M2 81 = M 81) (q53 : M2 53 = M 53) (q54 : M2 54 = M 54) (q55 : M2 55 = M 55) (q59 : M2 59 55 = M 59 55) (q99 : M2 99 = M 99) (hx : rfX M2) (hro : rom e M cs cl) : Rel e M2 := by
  refine ⟨cs, cl, cRel_c hr hC h25 hc hst h1, rOK_c hr hW h25 hc h74 h96 h97 h98 hV h79 h80, wkR_k hw q45 q46 q81, tlR_k ht q53 q54 q55 q59 q99, hx, ?_⟩
  unfold rom at *
  rw [h25]; exact hro
theorem op_type (h : Rel e M) (hd : 1200 ≤ d) : C_Mf_type e d M (fun y M1 => R_type e d M1 (fun y2 M2 => y = y2 ∧ rg y ∧ Rel e M2 ∧ M2 0 = M 0)) := by
  have h' := h
  obtain ⟨cs, cl, h1, hr, hw, ht, hxx, hro⟩ := h'
  obtain ⟨d, rfl⟩ : ∃ d', d = d' + 9 := ⟨d - 9, by omega⟩
  have h1' := h1
  obtain ⟨s1, s2, s3, s4, s5, s6, s7⟩ := h1'
  have hr' := hr
  obtain ⟨⟨gp, gt, gv, gb, ge⟩, h20, hall, hV, h9⟩ := hr'
  have e20 : M 2 0 = M 59 1 := s4.2.2.1.1
  have h8 := gt.1
  obtain ⟨r1, r2⟩ := rel_0 (v := 0) h
  refine c_Mf_type (c_Mf_type_0 s1 (c_Ty_addType (c_Ty_addType_0 s1 ⟨by rw [e20]; exact ⟨by omega, by omega⟩, fun z M1 e1 => ?_, fun z => ?_⟩)))
  · rw [e20] at z
    have f1 : ∀ j, j ≠ 2 → M1 j = M j := fun j hj => by rw [e1, xrd hj]
    have q20 : M1 2 0 = M 59 1 + 1 := by rw [e1, xrs, e20]
    have q59 : M1 59 = M 59 := f1 59 (by decide)
    have e591 : M1 59 1 = M 59 1 := by rw [q59]
    rw [q20, show M 59 1 + 1 - 1 = M 59 1 by omega]
    refine s_type s2 (by omega) (fun y => absurd y (by omega)) (fun y => ?_)
    rw [e591]
    obtain ⟨M2, e2⟩ : ∃ M2, M2 = xup (xup M1 59 0 0) 59 1 (M 59 1 + 1) := ⟨_, rfl⟩
    rw [← e2]
    have g : ∀ j, j ≠ 2 → j ≠ 59 → M2 j = M j := fun j y1 y2 => by rw [e2, xrd y2, xrd y2, f1 j y1]
    have g59 : ∀ i, i ≠ 0 → i ≠ 1 → M2 59 i = M 59 i := fun i y1 y2 => by rw [e2, xri y2, xri y1, q59]
    have g1 : M2 59 1 = M 59 1 + 1 := by rw [e2, xrs]
    have g2 : M2 2 = M1 2 := by rw [e2, xrd (by decide), xrd (by decide)]
    have e18 := g59 18 (by decide) (by decide)
    have e10 := g59 10 (by decide) (by decide)
    have e25 := g59 25 (by decide) (by decide)
    have hsz : ∀ t k, mSz M2 t k = mSz M t k := fun t k => mSz_D ⟨g 61 (by decide) (by decide), g 62 (by decide) (by decide), g 63 (by decide) (by decide)⟩
    have nb : ∀ p a, nmb M2 p a ↔ nmb M p a := fun p a => by unfold nmb; rw [g 73 (by decide) (by decide)]
    have hcn : ∀ x, cng M M2 x := fun x => by
      refine ⟨by rw [e18]; exact Int.le_refl _, fun p _ => ?_, ?_, fun r _ _ => ?_, ?_⟩
      · rw [g 68 (by decide) (by decide), g 69 (by decide) (by decide), g 70 (by decide) (by decide), g 72 (by decide) (by decide), g 73 (by decide) (by decide), g 71 (by decide) (by decide)]; exact ⟨rfl, rfl, rfl, rfl, rfl, fun _ _ _ => rfl⟩
      · rw [g 60 (by decide) (by decide), g 61 (by decide) (by decide), g 62 (by decide) (by decide), g 63 (by decide) (by decide), g1]; exact ⟨rfl, rfl, rfl, rfl, by omega⟩
      · rw [g 79 (by decide) (by decide), g 80 (by decide) (by decide)]; exact ⟨rfl, rfl⟩
      · rw [g 75 (by decide) (by decide), g 76 (by decide) (by decide), g 77 (by decide) (by decide), g 78 (by decide) (by decide)]; exact ⟨rfl, rfl, fun _ _ _ => rfl, fun _ _ _ => rfl⟩
    have hnew := hxx.1.2.2.1 (M 59 1) (Int.le_refl _) (by omega)
    have hT2 : wfT M2 := by
      unfold wfT
      rw [g 60 (by decide) (by decide), g 61 (by decide) (by decide), g 62 (by decide) (by decide), g1]
      refine ⟨by omega, gt.2.1, gt.2.2.1, fun t k t0 t1 k0 k1 => ?_⟩
      by_cases w : t = M 59 1
      · rw [w, hnew.1] at k1; omega
      · obtain ⟨a1, a2⟩ := gt.2.2.2 t k t0 (by omega) k0 k1
        exact ⟨a1, fun j j0 j1 => by have := a2 j j0 j1; omega⟩
    have hW2 : wOK M2 := by
      refine ⟨?_, hT2, ?_, ?_, ?_⟩
      · refine ⟨by rw [e18]; exact gp.1, fun p hp => ?_⟩
        have hp' : isP M p := by unfold isP at *; rw [e18] at hp; exact hp
        have a := gp.2 p hp'
        unfold isP pct prt at *
        rw [g 60 (by decide) (by decide), g 61 (by decide) (by decide), g 62 (by decide) (by decide), g 68 (by decide) (by decide), g 69 (by decide) (by decide), g 70 (by decide) (by decide), g 71 (by decide) (by decide), g 72 (by decide) (by decide), e18, g1]
        exact ⟨⟨a.1.1, by omega⟩, a.2⟩
      · refine ⟨by rw [e10]; exact gv.1, fun v v0 v1 => ?_⟩
        rw [e10] at v1
        have a := gv.2 v v0 v1
        rw [g 60 (by decide) (by decide), g 61 (by decide) (by decide), g 62 (by decide) (by decide), g 64 (by decide) (by decide), g 65 (by decide) (by decide), g 66 (by decide) (by decide), g1]
        exact ⟨a.1, ⟨a.2.1.1, by omega⟩, a.2.2⟩
      · unfold wfB isP pct prt at *
        simp only [nb]
        rw [g 61 (by decide) (by decide), g 68 (by decide) (by decide), g 69 (by decide) (by decide), g 70 (by decide) (by decide), g 71 (by decide) (by decide), e18]; exact gb
      · unfold wfE noE isP pct prt at *
        rw [g 61 (by decide) (by decide), g 68 (by decide) (by decide), g 69 (by decide) (by decide), g 70 (by decide) (by decide), g 71 (by decide) (by decide), g 74 (by decide) (by decide), e18]; exact ge
    have hst2 : stc M2 M2 := by
      obtain ⟨t1, t2, t3, t4, t5, t6, t7, t8⟩ := s4
      refine ⟨?_, ?_, ⟨by rw [g2, g1]; exact q20, ?_, ?_⟩, ?_, ?_, by rw [g 1 (by decide) (by decide), e25]; exact t6, ?_, ?_⟩
      · unfold pCl isP pct prt at *
        rw [g 19 (by decide) (by decide), g 21 (by decide) (by decide), g 24 (by decide) (by decide), g 61 (by decide) (by decide), g 68 (by decide) (by decide), g 69 (by decide) (by decide), g 70 (by decide) (by decide), g 71 (by decide) (by decide), e18]; exact t1
      · unfold pCn isP pct at *
        rw [g 23 (by decide) (by decide), g 61 (by decide) (by decide), g 68 (by decide) (by decide), g 69 (by decide) (by decide), g 70 (by decide) (by decide), e18]; exact t2
      · rw [g 3 (by decide) (by decide), g 60 (by decide) (by decide)]; exact t3.2.1
      · rw [g 4 (by decide) (by decide), g 5 (by decide) (by decide), g 60 (by decide) (by decide), g 61 (by decide) (by decide), g 62 (by decide) (by decide), g1]
        intro t k t0 t1' k0 k1
        by_cases w : t = M 59 1
        · rw [w, hnew.1] at k1; omega
        · exact t3.2.2 t k t0 (by omega) k0 k1
      · unfold vCl vpc at *
        rw [g 11 (by decide) (by decide), g 13 (by decide) (by decide), g 14 (by decide) (by decide), g 61 (by decide) (by decide), g 64 (by decide) (by decide), g 65 (by decide) (by decide), g 66 (by decide) (by decide), e10]; exact t4
      · unfold vTy at *
        rw [g 8 (by decide) (by decide), g 10 (by decide) (by decide), g 64 (by decide) (by decide), e10]; exact t5
      · have htn : ∀ (n : Nat) (p a : Int), tyN M2 n p a = tyN M n p a := by
          intro n
          induction n with
          | zero => intro p a; rfl
          | succ n ih =>
            intro p a
            unfold tyN pct prt
            rw [g 61 (by decide) (by decide), g 68 (by decide) (by decide), g 69 (by decide) (by decide), g 70 (by decide) (by decide), g 71 (by decide) (by decide), g 73 (by decide) (by decide)]
            simp only [ih]
        unfold tmR isP at *
        simp only [nb, htn]
        rw [g 8 (by decide) (by decide), g 12 (by decide) (by decide), g 15 (by decide) (by decide), g 17 (by decide) (by decide), g 18 (by decide) (by decide), g 20 (by decide) (by decide), g 22 (by decide) (by decide), g 25 (by decide) (by decide), g 26 (by decide) (by decide), g 27 (by decide) (by decide), g 67 (by decide) (by decide), g 69 (by decide) (by decide), g 72 (by decide) (by decide), g 73 (by decide) (by decide), g 74 (by decide) (by decide), e10, e18]; exact t7
      · refine ⟨by rw [g 6 (by decide) (by decide), g 63 (by decide) (by decide)]; exact t8.1, by rw [g 7 (by decide) (by decide)]; exact t8.2.1, fun t t0 t1' hp => ?_, ?_⟩
        · rw [g 63 (by decide) (by decide)] at hp
          rw [g1] at t1'
          have w : t ≠ M 59 1 := fun u => by rw [u, hnew.2] at hp; omega
          rw [g 7 (by decide) (by decide), pMk_c (m := 0) (hcn 0)]
          exact t8.2.2.1 t t0 (by omega) hp
        · rw [g2, e1, xri (by decide), g 60 (by decide) (by decide)]; exact t8.2.2.2
    refine ⟨rfl, ⟨by omega, by omega⟩, rel_mk (M1 := M1) hr h1 (fun c hc => g c (by omega) (by omega)) e25 (fun x _ _ => hcn x) hst2 hW2 (fun p _ => by rw [g 74 (by decide) (by decide)]) (g 96 (by decide) (by decide)) (g 97 (by decide) (by decide)) (g 98 (by decide) (by decide)) (fun w => ?_) (g 79 (by decide) (by decide)) (g 80 (by decide) (by decide)) hw ht (g 45 (by decide) (by decide)) (g 46 (by decide) (by decide)) (g 81 (by decide) (by decide)) (g 53 (by decide) (by decide)) (g 54 (by decide) (by decide)) (g 55 (by decide) (by decide)) (g59 55 (by decide) (by decide)) (g 99 (by decide) (by decide)) ?_ hro, g 0 (by decide) (by decide)⟩
    · obtain ⟨v1, v2, v3⟩ := hV w
      refine ⟨?_, ?_, ?_⟩
      · rw [g 63 (by decide) (by decide), g1]
        intro t t0 t1'
        exact ⟨(hxx.1.2.1 t t0 (by omega)).1, (hxx.1.2.1 t t0 (by omega)).2.1⟩
      · simp only [hsz]
        rw [g 60 (by decide) (by decide), g 63 (by decide) (by decide), g1]
        intro t t0 t1' hp
        have w : t ≠ M 59 1 := fun u => by rw [u, hnew.2] at hp; omega
        exact v2 t t0 (by omega) hp
      · rw [g 60 (by decide) (by decide), g 61 (by decide) (by decide), g 62 (by decide) (by decide), g 63 (by decide) (by decide), g1]
        intro t k j t0 t1' k0 k1 j0 j1
        by_cases w : t = M 59 1
        · rw [w, hnew.1] at k1; omega
        · exact v3 t k j t0 (by omega) k0 k1 j0 j1
    · obtain ⟨⟨x1, x2, x3, x4⟩, x5, x6⟩ := hxx
      refine ⟨⟨by rw [g 63 (by decide) (by decide)]; exact x1, by rw [g 63 (by decide) (by decide)]; exact x2, fun t t0 t1' => ?_, fun t t0 t1' => ?_⟩, ?_, ?_⟩
      · rw [g1] at t0
        rw [g 60 (by decide) (by decide), g 63 (by decide) (by decide)]; exact x3 t (by omega) t1'
      · rw [g1] at t1'
        simp only [hsz]
        rw [g 60 (by decide) (by decide), g 63 (by decide) (by decide)]
        by_cases w : t = M 59 1
        · rw [w, hnew.1, hnew.2]
          exact ⟨fun k k0 k1 => by omega, fun k => by omega⟩
        · exact x4 t t0 (by omega)
      · rw [e10, g 67 (by decide) (by decide)]; exact x5
      · unfold isP at *
        rw [e18, g 73 (by decide) (by decide), g 74 (by decide) (by decide)]; exact x6
  · rw [e20] at z
    have z8 : M 59 1 = 8 := Classical.not_not.mp z
    exact s_type s2 (by omega) (fun _ => ⟨rfl, ⟨by omega, by omega⟩, r1, r2⟩) (fun y => absurd y (by omega))
end OPW
