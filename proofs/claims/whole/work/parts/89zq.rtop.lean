/-! ===== the reference: run, tree, missing ===== -/
/-- what the reference's questions leave -/
def frR (M M' : xM) : Prop := ∀ c i, (c < 59 ∨ (59 < c ∧ c < 81) ∨ 98 < c ∨ (c = 59 ∧ i ≠ 0 ∧ i ≠ 31 ∧ i ≠ 33 ∧ i ≠ 35 ∧ i ≠ 42 ∧ i ≠ 43 ∧ i ≠ 44 ∧ i ≠ 45 ∧ i ≠ 46 ∧ i ≠ 48 ∧ i ≠ 50)) → M' c i = M c i
/-- the part of it that all stands on -/
def rKp (M M' : xM) : Prop := (∀ c, 59 < c → c < 81 → M' c = M c) ∧ M' 59 1 = M 59 1 ∧ M' 59 10 = M 59 10 ∧ M' 59 18 = M 59 18 ∧ M' 59 25 = M 59 25
/-- what has been looked up of a match -/
def lkE (M : xM) (m : Int) : Prop := (M 97 m = 1 ∧ fin_ M m 120 [root M m] = none) ∨ (M 97 m = 0 ∧ ∃ evs, fin_ M m 120 [root M m] = some evs ∧ (∀ k, 0 ≤ k → k < 4 → M 98 (5 * m + k) = cntK k evs) ∧ M 98 (5 * m + 4) = ndM 0 evs)
def lkO (M : xM) (m : Int) : Prop := (M 96 m = 0 ∨ M 96 m = 1) ∧ (M 96 m = 1 → lkE M m)
/-- a match to come: nothing is there yet -/
def nwM (M : xM) : Prop := ∀ x, M 59 25 ≤ x → x < 20 → M 96 x = 0 ∧ ∀ r, 0 ≤ r → r < 12 → M 79 (12 * x + r) = 0 ∧ M 80 (12 * x + r) = 0
/-- the reference in order -/
def rOK (M : xM) : Prop := wOK M ∧ (0 ≤ M 59 25 ∧ M 59 25 ≤ 20) ∧ (∀ x, 0 ≤ x → x < M 59 25 → mOK M x ∧ lkO M x) ∧ (0 < M 59 25 → wfV M) ∧ (∀ i, 0 ≤ i → i < 240 → rg (M 79 i)) ∧ nwM M
section RTP
variable {e : yE} {d : Nat} {M M' : xM} {m : Int}
theorem frR_c (h : frR M M') (c : Nat) (hc : c < 59 ∨ (59 < c ∧ c < 81) ∨ 98 < c) : M' c = M c := by funext i; exact h c i (by omega)
theorem frR_trans {M'' : xM} (h : frR M M') (h2 : frR M' M'') : frR M M'' := fun c i hc => (h2 c i hc).trans (h c i hc)
theorem rKp_R (h : frR M M') : rKp M M' := ⟨fun c c0 c1 => frR_c h c (by omega), h 59 1 (by omega), h 59 10 (by omega), h 59 18 (by omega), h 59 25 (by omega)⟩
theorem rKp_trans {M'' : xM} (h : rKp M M') (h2 : rKp M' M'') : rKp M M'' := ⟨fun c c0 c1 => (h2.1 c c0 c1).trans (h.1 c c0 c1), h2.2.1.trans h.2.1, h2.2.2.1.trans h.2.2.1, h2.2.2.2.1.trans h.2.2.2.1, h2.2.2.2.2.trans h.2.2.2.2⟩
theorem cng_K (h : rKp M M') : cng M M' m := by
  have g := fun c (hc : 59 < c ∧ c < 81) => h.1 c hc.1 hc.2
  refine ⟨by rw [h.2.2.2.1]; exact Int.le_refl _, fun p _ => ?_, ?_, fun r _ _ => ?_, ?_⟩
  · rw [g 68 (by omega), g 69 (by omega), g 70 (by omega), g 72 (by omega), g 73 (by omega), g 71 (by omega)]; exact ⟨rfl, rfl, rfl, rfl, rfl, fun _ _ _ => rfl⟩
  · rw [g 60 (by omega), g 61 (by omega), g 62 (by omega), g 63 (by omega), h.2.1]; exact ⟨rfl, rfl, rfl, rfl, Int.le_refl _⟩
  · rw [g 79 (by omega), g 80 (by omega)]; exact ⟨rfl, rfl⟩
  · rw [g 75 (by omega), g 76 (by omega), g 77 (by omega), g 78 (by omega)]; exact ⟨rfl, rfl, fun _ _ _ => rfl, fun _ _ _ => rfl⟩
theorem cng_R (h : frR M M') : cng M M' m := cng_K (rKp_R h)
theorem fin_cg {D D' : xM} (hw : wfP D) (ht : wfT D) (hm : wfM D m) (h : cng D D' m) : fin_ D' m 120 [root D' m] = fin_ D m 120 [root D m] := by
  rw [root_c hw hm h, fin_c hw ht h]
  intro a ha
  have : a = root D m := by simpa using ha
  rw [this]; exact root_wf hw hm
theorem lkE_c {D' : xM} (hw : wfP M) (ht : wfT M) (hm : wfM M m) (h : cng M D' m) (h97 : D' 97 m = M 97 m) (h98 : ∀ k, 0 ≤ k → k < 5 → D' 98 (5 * m + k) = M 98 (5 * m + k)) (hl : lkE M m) : lkE D' m := by
  unfold lkE
  rw [fin_cg hw ht hm h, h97]
  rcases hl with z | ⟨z1, evs, z2, z3, z4⟩
  · exact Or.inl z
  · exact Or.inr ⟨z1, evs, z2, fun k k0 k4 => by rw [h98 k k0 (by omega)]; exact z3 k k0 k4, by rw [h98 4 (by omega) (by omega)]; exact z4⟩
theorem lkO_c {D' : xM} (hw : wfP M) (ht : wfT M) (hm : wfM M m) (h : cng M D' m) (h96 : D' 96 m = M 96 m) (h97 : D' 97 m = M 97 m) (h98 : ∀ k, 0 ≤ k → k < 5 → D' 98 (5 * m + k) = M 98 (5 * m + k)) (hl : lkO M m) : lkO D' m :=
  ⟨by rw [h96]; exact hl.1, fun z => lkE_c hw ht hm h h97 h98 (hl.2 (by rw [← h96]; exact z))⟩
theorem tOK_of (h : rOK M) (m0 : 0 ≤ m) (m1 : m < M 59 25) : tOK M m := ⟨h.1.1, h.1.2.1, h.2.2.2.1 (by omega), (h.2.2.1 m m0 m1).1.1, h.2.2.2.2.1⟩
theorem rOK_K (h : rOK M) (hf : rKp M M') (hl : (∀ x, 0 ≤ x → x < M 59 25 → lkO M' x) ∧ nwM M') : rOK M' := by
  have g := fun c (hc : 59 < c ∧ c < 81) => hf.1 c hc.1 hc.2
  obtain ⟨-, e1, e10, e18, e25⟩ := hf
  obtain ⟨⟨h1, h2, h3, h4, h5⟩, h6, h7, h8, h9⟩ := h
  have nb : ∀ p a, nmb M' p a ↔ nmb M p a := fun p a => by unfold nmb; rw [g 73 (by omega)]
  refine ⟨⟨?_, ?_, ?_, ?_, ?_⟩, by rw [e25]; exact h6, fun x x0 x1 => ?_, fun z => ?_, ⟨by rw [g 79 (by omega)]; exact h9.1, hl.2⟩⟩
  · unfold wfP isP pct prt at *
    rw [g 60 (by omega), g 61 (by omega), g 62 (by omega), g 68 (by omega), g 69 (by omega), g 70 (by omega), g 71 (by omega), g 72 (by omega), e1, e18]; exact h1
  · unfold wfT at *
    rw [g 60 (by omega), g 61 (by omega), g 62 (by omega), e1]; exact h2
  · unfold wfVl at *
    rw [g 60 (by omega), g 61 (by omega), g 62 (by omega), g 64 (by omega), g 65 (by omega), g 66 (by omega), e1, e10]; exact h3
  · unfold wfB isP pct prt at *
    simp only [nb]
    rw [g 61 (by omega), g 68 (by omega), g 69 (by omega), g 70 (by omega), g 71 (by omega), e18]; exact h4
  · unfold wfE noE isP pct prt at *
    rw [g 61 (by omega), g 68 (by omega), g 69 (by omega), g 70 (by omega), g 71 (by omega), g 74 (by omega), e18]; exact h5
  · rw [e25] at x1
    refine ⟨?_, hl.1 x x0 x1⟩
    have hx := (h7 x x0 x1).1
    unfold mOK wfM wfG wfU wfQ noE rpt isP at *
    simp only [nb]
    rw [g 63 (by omega), g 69 (by omega), g 74 (by omega), g 75 (by omega), g 76 (by omega), g 77 (by omega), g 78 (by omega), g 79 (by omega), g 80 (by omega), e1, e18]; exact hx
  · rw [e25] at z
    have hz := h8 z
    have hsz : ∀ t k, mSz M' t k = mSz M t k := fun t k => mSz_D ⟨g 61 (by omega), g 62 (by omega), g 63 (by omega)⟩
    unfold wfV at *
    simp only [hsz]
    rw [g 60 (by omega), g 61 (by omega), g 62 (by omega), g 63 (by omega), e1]; exact hz
theorem rOK_R (h : rOK M) (hf : frR M M') (hl : (∀ x, 0 ≤ x → x < M 59 25 → lkO M' x) ∧ nwM M') : rOK M' := rOK_K h (rKp_R hf) hl
/-- nothing of what was looked up has changed -/
theorem rOK_s (h : rOK M) (hf : rKp M M') (h96 : M' 96 = M 96) (h97 : M' 97 = M 97) (h98 : M' 98 = M 98) : rOK M' :=
  rOK_K h hf ⟨fun x x0 x1 => lkO_c h.1.1 h.1.2.1 (h.2.2.1 x x0 x1).1.1 (cng_K hf) (by rw [h96]) (by rw [h97]) (fun k _ _ => by rw [h98]) (h.2.2.1 x x0 x1).2, fun x x0 x1 => by rw [h96, hf.1 79 (by omega) (by omega), hf.1 80 (by omega) (by omega)]; exact h.2.2.2.2.2 x (by rw [← hf.2.2.2.2]; exact x0) x1⟩
theorem s_forget {Q : xM → Prop} (hs : RSh e) (h : ∀ M', (∀ j, j ≠ 81 → M' j = M j) → (∀ x, 0 ≤ x → x < 16 → M' 81 x = -1) → M' 81 16 = 0 → M' 81 17 = 0 → Q M') : R_forget e (d + 1) M Q := by
  have key : ∀ (n x : Nat) (M1 : xM), x + n = 16 → (∀ j, j ≠ 81 → M1 j = M j) → (∀ y : Int, 0 ≤ y → y < x → M1 81 y = -1) → R_forget_2 e d x M1 Q := by
    intro n
    induction n with
    | zero =>
      intro x M1 hx g1 g2
      refine t_forget_2 hs ⟨⟨by omega, by omega⟩, fun _ M2 e2 M3 e3 => h M3 (fun j hj => by rw [e3, xrd hj, e2, xrd hj]; exact g1 j hj) (fun y y0 y1 => by rw [e3, xri (by omega), e2, xri (by omega)]; exact g2 y y0 (by omega)) (by rw [e3, xri (by decide), e2, xrs]) (by rw [e3, xrs]), fun z => absurd (by omega) z⟩
    | succ n ih =>
      intro x M1 hx g1 g2
      refine t_forget_2 hs ⟨⟨by omega, by omega⟩, fun z => absurd z (by omega), fun _ => ⟨by omega, fun M2 e2 => ih (x + 1) M2 (by omega) (fun j hj => by rw [e2, xrd hj]; exact g1 j hj) (fun y y0 y1 => ?_)⟩⟩
      by_cases w : y = x
      · rw [e2, w, xrs]
      · rw [e2, xri w]; exact g2 y y0 (by omega)
  exact t_forget (t_forget_0 hs (key 16 0 M rfl (fun _ _ => rfl) (fun y y0 y1 => by omega)))
/-- a match is looked up -/
theorem s_look2 {Q : xM → Prop} (hs : RSh e) (hd : 1001 ≤ d) (hr : rOK M) (m0 : 0 ≤ m) (m1 : m < M 59 25) (h : ∀ M', frR M M' → M' 81 = M 81 → ((∀ x, 0 ≤ x → x < M 59 25 → lkO M' x) ∧ nwM M') → lkE M' m → Q M') : R_look e d m M Q := by
  have h20 := hr.2.1
  obtain ⟨hO, hL⟩ := hr.2.2.1 m m0 m1
  have ht := tOK_of hr m0 m1
  refine s_look hs hd (by omega) hL.1 (fun _ => ht) (fun z => h M (fun _ _ _ => rfl) rfl ⟨fun x x0 x1 => (hr.2.2.1 x x0 x1).2, hr.2.2.2.2.2⟩ (hL.2 z)) (fun z M' g1 g2 g3 => ?_)
  have hf : frR M M' := fun c i hc => g1 c i (by omega)
  have hlm : lkE M' m := by
    unfold lkE
    rw [fin_cg hr.1.1 hr.1.2.1 hO.1 (cng_R hf)]
    rcases g3 with y | ⟨y1, evs, y2, y3⟩
    · exact Or.inl y
    · obtain ⟨f1, f2⟩ := fold_94 (D := M) (m := m) evs (sg0 M) (fin_k _ _ _ y2)
      have s94 : ∀ k, sg0 M 94 k = 0 := fun k => by unfold sg0; rw [if_pos rfl]
      refine Or.inr ⟨y1, evs, y2, fun k k0 k4 => ?_, ?_⟩
      · rw [y3 k k0 (by omega), f1 k k0 k4, s94]; omega
      · rw [y3 4 (by omega) (by omega), f2, s94]
  refine h M' hf (funext fun i => g1 81 i (by omega)) ⟨fun x x0 x1 => ?_, fun x x0 x1 => ?_⟩ hlm
  rotate_left
  · have e25 : M' 59 25 = M 59 25 := hf 59 25 (by omega)
    rw [e25] at x0
    obtain ⟨n1, n2⟩ := hr.2.2.2.2.2 x x0 x1
    refine ⟨by rw [g1 96 x (by omega)]; exact n1, fun r r0 r1 => ?_⟩
    rw [g1 79 _ (by omega), g1 80 _ (by omega)]; exact n2 r r0 r1
  by_cases w : x = m
  · rw [w]; exact ⟨Or.inr g2, fun _ => hlm⟩
  · obtain ⟨ox, lx⟩ := hr.2.2.1 x x0 x1
    exact lkO_c hr.1.1 hr.1.2.1 ox.1 (cng_R hf) (g1 96 x (by omega)) (g1 97 x (by omega)) (fun k k0 k5 => g1 98 _ (by omega)) lx
end RTP
