/-! ===== the reference: run, tree, missing, whole ===== -/
section RTQ
variable {e : yE} {d : Nat} {M : xM} {m : Int}
theorem wk_cg {D D' : xM} {va : Int → Int} (hw : wfP D) (ht : wfT D) (hm : wfM D m) (hf : rKp D D') : wk D' m 120 (root D' m) va = wk D m 120 (root D m) va := by
  rw [root_c hw hm (cng_K hf), wk_c hw ht (cng_K hf) (hf.1 65 (by omega) (by omega)) (hf.1 66 (by omega) (by omega)) 120 (root D m) va (root_wf hw hm)]
theorem rOK_0 {i v : Int} (h : rOK M) (hi : i ≠ 1 ∧ i ≠ 10 ∧ i ≠ 18 ∧ i ≠ 25) : rOK (xup M 59 i v) :=
  rOK_s h ⟨fun c c0 _ => xrd (by omega), xri (by omega), xri (by omega), xri (by omega), xri (by omega)⟩ (xrd (by decide)) (xrd (by decide)) (xrd (by decide))
theorem frR_0 {i v : Int} (hi : i = 0) : frR M (xup M 59 i v) := fun c j hc => by
  rw [xup_ap, if_neg (fun z => by omega)]
theorem s_run_r {a b c : Int} {Q : Int → xM → Prop} (hs : RSh e) (hd : 1100 ≤ d) (hr : rOK M) (hm : rg m) (habc : rg a ∧ rg b ∧ rg c)
    (hno : ¬ ((0 ≤ m ∧ m < M 59 25) ∧ vaO M m (fun q => pk3 q a b c)) → ∀ M', frR M M' → rOK M' → (∀ x, 0 ≤ x → x < 16 → M' 81 x = -1) → M' 81 16 = 0 → M' 81 17 = 0 → Q (-1) M')
    (hbig : (0 ≤ m ∧ m < M 59 25) → vaO M m (fun q => pk3 q a b c) → fin_ M m 120 [root M m] = none → ∀ M', frR M M' → rOK M' → M' 81 = M 81 → Q (-2) M')
    (hok : (0 ≤ m ∧ m < M 59 25) → vaO M m (fun q => pk3 q a b c) → ∀ evs, fin_ M m 120 [root M m] = some evs → ∀ M', frR M M' → rOK M' → M' 81 16 = (wk M m 120 (root M m) (fun q => pk3 q a b c)).1 → M' 81 17 = (wk M m 120 (root M m) (fun q => pk3 q a b c)).2.1 → (∀ x, 0 ≤ x → x < 16 → M' 81 x = (wk M m 120 (root M m) (fun q => pk3 q a b c)).2.2.2 x) → Q (wk M m 120 (root M m) (fun q => pk3 q a b c)).2.2.1 M') : R_run e d m a b c M Q := by
  obtain ⟨d, rfl⟩ : ∃ d', d = d' + 2 := ⟨d - 2, by omega⟩
  have hr' := hr
  obtain ⟨hW, h20, hall, hV, h9⟩ := hr'
  have hW' := hW
  obtain ⟨gp, gt, gv, gb, ge⟩ := hW'
  have h10 := gv.1
  refine t_run (t_run_0 hs (fun M1 e1 => ?_))
  have f1 : frR M M1 := by rw [e1]; exact frR_0 rfl
  have r1 : rOK M1 := by rw [e1]; exact rOK_0 hr (by omega)
  have g1 := frR_c f1
  have e81 : M1 81 = M 81 := by rw [e1, xrd (by decide)]
  have k1 : rKp M M1 := rKp_R f1
  refine s_isMatch hs hm (by rw [k1.2.2.2.2]; exact ⟨by omega, by omega⟩) ?_
  rw [k1.2.2.2.2]
  -- not fine
  have bad : ¬ ((0 ≤ m ∧ m < M 59 25) ∧ vaO M m (fun q => pk3 q a b c)) → R_run_63 e (d + 1) m a b c 0 M1 Q := fun hz =>
    t_run_63 hs ⟨⟨by omega, by omega⟩, fun z => absurd rfl z, fun _ => s_forget hs (fun M2 q1 q2 q3 q4 => hno hz M2 (fun cc i hc => by rw [q1 cc (by omega)]; exact f1 cc i hc) (rOK_s r1 ⟨fun cc _ _ => q1 cc (by omega), by rw [q1 59 (by decide)], by rw [q1 59 (by decide)], by rw [q1 59 (by decide)], by rw [q1 59 (by decide)]⟩ (q1 96 (by decide)) (q1 97 (by decide)) (q1 98 (by decide))) q2 q3 q4)⟩
  by_cases hmm : 0 ≤ m ∧ m < M 59 25
  · rw [bI_t hmm]
    obtain ⟨hO, hL⟩ := hall m hmm.1 hmm.2
    have hO' := hO
    obtain ⟨o1, o2, o3, o4, o5⟩ := hO'
    have h75 := o1.2.1
    have h77 := o1.2.2.1
    have good : vaO M m (fun q => pk3 q a b c) → R_run_63 e (d + 1) m a b c 1 M1 Q := by
      intro hva
      refine t_run_63 hs ⟨⟨by omega, by omega⟩, fun _ => ?_, fun z => absurd (by decide) z⟩
      refine s_look2 hs (by omega) r1 hmm.1 (by rw [k1.2.2.2.2]; exact hmm.2) (fun M2 f2 q2 l2 lk => ⟨by omega, ?_⟩)
      have r2 : rOK M2 := rOK_R r1 f2 l2
      have f12 := frR_trans f1 f2
      have hfin : fin_ M2 m 120 [root M2 m] = fin_ M m 120 [root M m] := fin_cg gp gt o1 (cng_R f12)
      have h97 : M2 97 m = 0 ∨ M2 97 m = 1 := by rcases lk with z | z; exact Or.inr z.1; exact Or.inl z.1
      refine ⟨by rcases h97 with z | z <;> (rw [z]; exact ⟨by omega, by omega⟩), fun z => ?_, fun z => ?_⟩
      · obtain ⟨evs, he⟩ : ∃ evs, fin_ M m 120 [root M m] = some evs := by
          rcases lk with y | ⟨-, evs, y, -⟩
          · omega
          · exact ⟨evs, by rw [← hfin]; exact y⟩
        refine s_forget hs (fun M3 q1 q2' q3 q4 => ?_)
        have r3 : rOK M3 := rOK_s r2 ⟨fun cc _ _ => q1 cc (by omega), by rw [q1 59 (by decide)], by rw [q1 59 (by decide)], by rw [q1 59 (by decide)], by rw [q1 59 (by decide)]⟩ (q1 96 (by decide)) (q1 97 (by decide)) (q1 98 (by decide))
        have f23 : frR M2 M3 := fun cc i hc => by rw [q1 cc (by omega)]
        have f13 := frR_trans f12 f23
        have k3 := rKp_R f13
        have m3 : m < M3 59 25 := by rw [k3.2.2.2.2]; exact hmm.2
        have hO3 := (r3.2.2.1 m hmm.1 m3).1
        have g3 := fun cc (hc : 59 < cc ∧ cc < 81) => k3.1 cc hc.1 hc.2
        refine s_goF hs (by omega) (tOK_of r3 hmm.1 m3) r3.1.2.2.1 r3.1.2.2.2.1 hO3.2.1 (by rw [fin_cg gp gt o1 (cng_R f13), he]; intro y; cases y) (fun q q0 q1' => ?_) (fun M4 f4 _ w0 w1 => ?_)
        · rw [g3 75 (by omega)] at q1'
          rw [k3.2.2.1, g3 64 (by omega), g3 76 (by omega)]; exact hva q q0 q1'
        · rw [wk_cg gp gt o1 k3] at w0 w1
          intro M5 e5 M6 e6
          have f34 : frR M3 M4 := fun cc i hc => f4 cc i (by omega)
          have f46 : frR M4 M6 := fun cc i hc => by rw [e6, xrd (by omega), e5, xrd (by omega)]
          have f16 := frR_trans f13 (frR_trans f34 f46)
          have o81 : M6 81 16 = (wk M m 120 (root M m) (fun q => pk3 q a b c)).1 := by rw [e6, xri (by decide), e5, xrs]; exact w0
          have p81 : M6 81 17 = (wk M m 120 (root M m) (fun q => pk3 q a b c)).2.1 := by rw [e6, xrs, e5, xrd (by decide)]; exact w1
          have n81 : ∀ x, 0 ≤ x → x < 16 → M6 81 x = -1 := fun x x0 x1 => by rw [e6, xri (by omega), e5, xri (by omega), f4 81 x (by omega)]; exact q2' x x0 x1
          have r6 : ∀ M7, (∀ j, j ≠ 81 → j ≠ 82 → M7 j = M6 j) → frR M M7 ∧ rOK M7 := by
            intro M7 q7
            have f67 : frR M6 M7 := fun cc i hc => by rw [q7 cc (by omega) (by omega)]
            refine ⟨frR_trans f16 f67, rOK_s r3 (rKp_R (frR_trans f34 (frR_trans f46 f67))) ?_ ?_ ?_⟩
            · rw [q7 96 (by decide) (by decide), e6, xrd (by decide), e5, xrd (by decide)]; exact frG_c f4 96 (by omega)
            · rw [q7 97 (by decide) (by decide), e6, xrd (by decide), e5, xrd (by decide)]; exact frG_c f4 97 (by omega)
            · rw [q7 98 (by decide) (by decide), e6, xrd (by decide), e5, xrd (by decide)]; exact frG_c f4 98 (by omega)
          have hwr := wk_root hW hO he hva
          refine s_run134 (D := M) hs gp gt gv gb o1 o2 o3 (by omega) hva (fun cc c0 c1 => frR_c f16 cc (by omega)) h9.1 (fun r r0 r1' htk hne M7 q7 n7 t7 => ?_) (fun hne M7 q7 => ?_)
          · have ho := oEq_trans hwr (out_rt gp gt gb o1 o2 o3 r0 r1' htk hne)
            obtain ⟨a1, a2⟩ := r6 M7 q7
            have := hok hmm hva evs he M7 a1 a2 (by rw [t7 16 (by omega)]; exact o81) (by rw [t7 17 (by omega)]; exact p81) (fun x x0 x1 => by rw [n7 x x0 x1]; exact (ho.2 x x0 x1).symm)
            rw [ho.1] at this
            exact this
          · have hno' := out_no gp gt gb o1 o2 o3 hne
            rw [hno'] at hwr
            obtain ⟨a1, a2⟩ := r6 M7 (fun j _ y2 => q7 j y2)
            have e7 := q7 81 (by decide)
            have := hok hmm hva evs he M7 a1 a2 (by rw [e7]; exact o81) (by rw [e7]; exact p81) (fun x x0 x1 => by rw [e7, n81 x x0 x1]; exact (hwr.2 x x0 x1).symm)
            rw [hwr.1] at this
            exact this
      · refine hbig hmm hva ?_ M2 f12 r2 (by rw [q2, e81])
        rcases lk with y | y
        · rw [← hfin]; exact y.2
        · exact absurd y.1 z
    have key : ∀ (n x : Nat), (x : Int) + n = M 75 m → (∀ k, 0 ≤ k → k < (x : Int) → (0 ≤ pk3 k a b c ∧ pk3 k a b c < M 59 10) ∧ M 64 (pk3 k a b c) = M 76 (3 * m + k)) → R_run_15 e (d + 1) m a b c 1 x M1 Q := by
      intro n
      induction n with
      | zero =>
        intro x hx g
        refine t_run_15 hs ⟨⟨by omega, by omega⟩, fun z => absurd z (by decide), fun _ => ⟨by omega, ⟨⟨by omega, by omega⟩, by rw [g1 75 (by omega)]; exact ⟨by omega, by omega⟩⟩, fun _ => good (fun k k0 k1 => g k k0 (by omega)), fun z => absurd (by rw [g1 75 (by omega)]; omega) z⟩⟩
      | succ n ih =>
        intro x hx g
        have rp : rg (pk3 x a b c) := by unfold pk3; split; exact habc.1; split; exact habc.2.1; exact habc.2.2
        refine t_run_15 hs ⟨⟨by omega, by omega⟩, fun z => absurd z (by decide), fun _ => ⟨by omega, ⟨⟨by omega, by omega⟩, by rw [g1 75 (by omega)]; exact ⟨by omega, by omega⟩⟩, fun z => absurd z (by rw [g1 75 (by omega)]; omega), fun _ => s_pick ⟨by omega, by omega⟩ ⟨by omega, ?_⟩⟩⟩
        have h76 := o1.2.2.2.1 x (by omega) (by omega)
        have h8 := gt.1.2
        refine s_isValueOf hs rp (by rw [g1 76 (by omega)]; exact ⟨by omega, by omega⟩) (by rw [k1.2.2.1]; exact h10) (fun i i0 i1 => ?_) ?_
        · rw [g1 64 (by omega)]; rw [k1.2.2.1] at i1
          have := (gv.2 i i0 i1).2.1; exact ⟨by omega, by omega⟩
        · rw [k1.2.2.1, g1 64 (by omega), g1 76 (by omega)]
          by_cases w : 0 ≤ pk3 x a b c ∧ pk3 x a b c < M 59 10 ∧ M 64 (pk3 x a b c) = M 76 (3 * m + x)
          · rw [bI_t w]
            refine ih (x + 1) (by omega) (fun k k0 k1' => ?_)
            by_cases u : k = x
            · rw [u]; exact ⟨⟨w.1, w.2.1⟩, w.2.2⟩
            · exact g k k0 (by omega)
          · rw [bI_f w]
            refine t_run_15 hs ⟨⟨by omega, by omega⟩, fun _ => bad (fun y => w ?_), fun z => absurd rfl z⟩
            have := y.2 x (by omega) (by omega)
            exact ⟨this.1.1, this.1.2, this.2⟩
    exact key (M 75 m).toNat 0 (by omega) (fun k k0 k1' => by omega)
  · rw [bI_f hmm]
    exact t_run_15 hs ⟨⟨by omega, by omega⟩, fun _ => bad (fun y => hmm y.1), fun z => absurd rfl z⟩
end RTQ
