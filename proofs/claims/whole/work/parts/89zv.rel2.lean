/-! ===== stands(), side by side ===== -/
def kpX (C C' : xM) : Prop := ∀ j, (j ≤ 28 ∨ (45 ≤ j ∧ j ≤ 99)) → C' j = C j
theorem RSh_le {e e' : yE} (h : RSh e) (hl : yLe e e') : RSh e' := by
  obtain ⟨h1, h2, h3⟩ := h
  have hlen : RShT.length = 40 := by decide
  refine ⟨Nat.lt_of_lt_of_le h1 hl.1, by rw [hl.2 59 (by omega)]; exact h2, fun i q hq => ?_⟩
  have hi : i < RShT.length := (List.getElem?_eq_some_iff.mp hq).1
  rw [hl.2 (i + 60) (by omega)]; exact h3 i q hq
theorem rKp_rf {D : xM} : rKp D D := ⟨fun _ _ _ => rfl, rfl, rfl, rfl, rfl⟩
section RLS
variable {e : yE} {d : Nat} {C D : xM} {cs cl mq : Nat} {x : Int}
theorem mt_nC {j : Nat} (h : XSh3 mq e) (h1 : mq ≤ j) (h2 : j ≤ mq + 17) : ¬ isC e j := by
  by_cases z : mq + 5 ≤ j
  · exact tr_nC h.2.2.2.2.2.2.2 z (by omega)
  · have : j = mq ∨ j = mq + 1 ∨ j = mq + 2 ∨ j = mq + 3 ∨ j = mq + 4 := by omega
    rcases this with y | y | y | y | y <;> subst y
    · exact nC_o h.2.2.1
    · exact nC_a (a3_1 h) (by decide)
    · exact nC_a (a3_2 h) (by decide)
    · exact nC_a (a3_3 h) (by decide)
    · exact nC_a (a3_4 h) (by decide)
theorem mtC_le {e' : yE} (hl : yLe e e') (h : mtC e C D x) : mtC e' C D x := by
  obtain ⟨mq, h1, h2, h3⟩ := h
  exact ⟨mq, h1, h2.le hl, h3⟩
theorem nmU_all (hr : rOK D) (hO : mOK D x) : ∀ r ∈ rtL D x (D 77 x).toNat, nmU D (D 75 x) r := by
  intro r hr'
  obtain ⟨i, hi, rfl⟩ := rtL_mem _ hr'
  have h77 := hO.1.2.2.1
  exact nmU_rt hr.1.1 hr.1.2.2.2.1 hO.1 hO.2.2.1 (by omega) (by omega)
theorem s_standsR {Q : Int → yE → xM → Prop} (hr : rOK D) (h : cRel e C D cs cl) (x0 : 0 ≤ x) (x1 : x < D 59 25) (hmq : C 28 x = (mq : Int))
    (hA : fin_ D x 120 [root D x] = none → ∀ e' C' cs' cl', cRel e' C' D cs' cl' → yLe e e' → rmC e e' cs cl cs' cl' → kpX C C' → Q 0 e' C')
    (hB : ∀ evs nd pi e' C' cs' cl', stT D (mq + 5) x C' nd pi evs → cRel e' C' D cs' cl' → yLe e e' → rmC e e' cs cl cs' cl' → kpX C C' → Q 1 e' C') : C_Bu_stands e (d + 8) mq C Q := by
  have h' := h
  obtain ⟨s1, s2, s3, s4, s5, s6, s7⟩ := h'
  obtain ⟨mq', m1, m2, m3, m4, m5, m6, m7⟩ := s5 x x0 x1
  have hmm : mq' = mq := by have : (mq' : Int) = mq := by rw [← m1, hmq]
                            omega
  subst hmm
  have hO := (hr.2.2.1 x x0 x1).1
  obtain ⟨gp, gt, gv, gb, ge⟩ := hr.1
  have h77 := hO.1.2.2.1
  have fin : ∀ e' C' cs' cl', snS (mq' + 5) mq' e C cs cl e' C' cs' cl' → C' mq' 7 = 0 → trO D (mq' + 5) x C' → cRel e' C' D cs' cl' ∧ yLe e e' ∧ rmC e e' cs cl cs' cl' ∧ kpX C C' := by
    intro e' C' cs' cl' hS h70 htr
    obtain ⟨k1, k2, k3, k4, k5⟩ := hS
    have c99 := s2.1
    have keep : kpX C C' := fun j hj => by
      refine k4 j (by omega) (by omega) (by omega) (by omega) (by omega) (by omega) (by omega) ?_
      by_cases w : 59 ≤ j
      · intro z; have := z.2.2.2; omega
      · by_cases w0 : j = 0
        · intro z
          subst w0
          have := z.1; omega
        · exact nC_fix s1 (by omega) (by omega) (by omega) (by omega)
    have mcell : ∀ y : Int, 0 ≤ y → y < D 59 25 → y ≠ x → ∀ mq : Nat, C 28 y = (mq : Int) → ∀ j, mq ≤ j → j ≤ mq + 17 → C' j = C j := by
      intro y y0 y1 hyx q hq j j0 j1
      obtain ⟨q', n1, n2, n3, -⟩ := s5 y y0 y1
      have hqq : q' = q := by have : (q' : Int) = q := by rw [← n1, hq]
                              omega
      subst hqq
      have hd := s6 x y x0 x1 y0 y1 (fun w => hyx w.symm)
      rw [m1, n1] at hd
      have l17 := n2.2.1
      exact k4 j (by omega) (by omega) (by omega) (by omega) (by omega) (by omega) (by omega) (mt_nC n2 j0 j1)
    refine ⟨⟨s1.le k2, RSh_le s2 k2, k1, stc_k (fun c hc => keep c (by omega)) rKp_rf s4, fun y y0 y1 => mtC_le k2 ?_, ?_, by rw [k2.2 0 (by omega)]; exact s7⟩, k2, k3, keep⟩
    · by_cases hyx : y = x
      · subst hyx
        have l17 := m2.2.1
        have fk : ∀ j, mq' + 1 ≤ j → j ≤ mq' + 4 → C' j = C j := fun j j0 j1 => k4 j (by omega) (by omega) (by omega) (by omega) (by omega) (by omega) (by omega) (mt_nC m2 (by omega) (by omega))
        refine ⟨mq', by rw [keep 28 (by omega)]; exact m1, m2, m3, ?_, ?_, Or.inl h70, fun _ => htr⟩
        · unfold mCl at *
          rw [k5 0 (by decide), k5 2 (by decide), fk (mq' + 1) (by omega) (by omega), fk (mq' + 2) (by omega) (by omega)]; exact m4
        · unfold gCl at *
          rw [fk (mq' + 3) (by omega) (by omega), fk (mq' + 4) (by omega) (by omega)]; exact m5
      · exact mtC_k gp gt (hr.2.2.1 y y0 y1).1.1 (keep 28 (by omega)) (mcell y y0 y1 hyx) rKp_rf (s5 y y0 y1)
    · unfold dsj at *
      rw [keep 28 (by omega)]; exact s6
  refine s_stands (m := x) (t := mq' + 5) gp gt gb hO.1 (fun r r0 r1 => rno_U gp gb hO.1 hO.2.2.1 r0 r1) (nmU_all hr hO) s1 s3 s4.1 s4.2.2.1 m2 rfl m3 m4 (fun r r0 r1 => ⟨(m5 r r0 r1).1, hO.2.2.2.2 r r0 r1⟩) (by rcases m6 with z | z <;> (rw [z]; exact ⟨by omega, by omega⟩)) m7 (fun hn e' C' cs' cl' hS h70 ht => ?_) (fun evs nd pi e' C' cs' cl' hS h70 ht => ?_)
  · obtain ⟨a1, a2, a3, a4⟩ := fin e' C' cs' cl' hS h70 (Or.inl ⟨ht, hn⟩)
    exact hA hn e' C' cs' cl' a1 a2 a3 a4
  · obtain ⟨a1, a2, a3, a4⟩ := fin e' C' cs' cl' hS h70 (Or.inr ⟨nd, pi, evs, ht⟩)
    exact hB evs nd pi e' C' cs' cl' ht a1 a2 a3 a4
end RLS
