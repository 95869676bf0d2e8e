/-! ===== the reference: doesMatch ===== -/
/-- what a look at one pattern leaves at the names' cell c -/
def eMt (D : xM) (p v : Int) (c : Nat) (M M' : xM) : Prop := (∀ j, j ≠ c → M' j = M j) ∧ (∀ a, 0 ≤ a → a < 16 → ¬ nmb D p a → M' c a = M c a) ∧ (mF D p v = true → ∀ a, 0 ≤ a → a < 16 → nmb D p a → M' c a = nvF D p v a)
/-- a value of a pattern's type -/
def vOf (D : xM) (p v : Int) : Prop := (0 ≤ v ∧ v < D 59 10) ∧ D 64 v = D 69 p
section RDM
variable {D : xM} {e : yE}
theorem vOf_pt (hw : wfP D) (hv : wfVl D) {p v j : Int} (hp : isP D p) (h2 : D 68 p = 2) (hvo : vOf D p v) (hl : D 65 v = D 70 p) (j0 : 0 ≤ j) (j1 : j < pct D p) : vOf D (prt D p j) (D 66 (3 * v + j)) := by
  obtain ⟨a1, a2, a3, a4⟩ := (hw.2 p hp).2.2.2.2.2.2.1 h2
  obtain ⟨b1, b2, b3⟩ := hv.2 v hvo.1.1 hvo.1.2
  rw [hvo.2, hl] at b3
  obtain ⟨c1, c2⟩ := (b3 a2).2 j j0 j1
  exact ⟨⟨c1.1, by have := hvo.1.2; omega⟩, by rw [c2, (a3 j j0 j1).2.2]⟩
theorem s_dM (hs : RSh e) (hw : wfP D) (ht : wfT D) (hv : wfVl D) (hb : wfB D) : ∀ (n d : Nat) (p v : Int) (M : xM) (Q : Int → xM → Prop), n + 1 ≤ d → isP D p → D 72 p ≤ (n : Int) → vOf D p v → (∀ c, 59 < c → c < 80 → M c = D c) → (∀ M', eMt D p v 82 M M' → Q (bI (mF D p v = true)) M') → R_doesMatch e d p v M Q := by
  intro n
  induction n with
  | zero => intro d p v M Q _ hp h; have := (hw.2 p hp).2.1; omega
  | succ n ih =>
    intro d p v M Q hd hp hn hvo hst h
    obtain ⟨d, rfl⟩ : ∃ d', d = d' + 1 := ⟨d - 1, by omega⟩
    obtain ⟨w1, w2, w3, w4, w5, w6, w7, w8, w9⟩ := hw.2 p hp
    have h300 := hw.1.2
    have hp300 : 0 ≤ p ∧ p < 300 := ⟨hp.1, by have := hp.2; omega⟩
    have hv300 : 0 ≤ v ∧ v < 300 := ⟨hvo.1.1, by have := hvo.1.2; have := hv.1.2; omega⟩
    have hvr := (hv.2 v hvo.1.1 hvo.1.2).1
    have e68 := hst 68 (by decide) (by decide)
    have e70 := hst 70 (by decide) (by decide)
    have e65 := hst 65 (by decide) (by decide)
    have e71 := hst 71 (by decide) (by decide)
    have e69 := hst 69 (by decide) (by decide)
    refine t_doesMatch (t_doesMatch_0 hs ?_)
    rw [e68, e70]
    refine ⟨hp300, hp300, ⟨by omega, by omega⟩, fun z => absurd z (by omega), fun z => ?_, fun z => ?_, fun z => ?_, fun z => ?_, fun z => ?_⟩
    · have hm : mF D p v = true := mF_0 z
      rw [bI_t hm] at h
      refine t_doesMatch_48 hs ⟨w3, fun y => h M ⟨fun _ _ => rfl, fun _ _ _ _ => rfl, fun _ a a0 a1 ha => ?_⟩, fun y => ⟨by have := w5 z; omega, fun M1 e1 => ?_⟩⟩
      · have := ((hb p hp a a0 a1).1 z).mp ha; omega
      · refine h M1 ⟨fun j hj => by rw [e1, xrd hj], fun a a0 a1 ha => ?_, fun _ a a0 a1 ha => ?_⟩
        · rw [e1, xri (fun y => ha (((hb p hp a a0 a1).1 z).mpr y.symm))]
        · have := ((hb p hp a a0 a1).1 z).mp ha
          rw [e1, ← this, xrs, nvF_0 z rfl]
    · have hm : mF D p v = (D 65 v == D 70 p) := mF_1 z
      have hE : ∀ M', M' = M → eMt D p v 82 M M' := fun M' e' => ⟨fun j _ => by rw [e'], fun a _ _ _ => by rw [e'], fun _ a a0 a1 ha => absurd ha ((hb p hp a a0 a1).2.1 z)⟩
      refine t_doesMatch_61 hs ?_
      rw [e65]
      refine ⟨hv300, ⟨hvr, w3⟩, fun y => ?_, fun y => ?_⟩
      · have := h M (hE M rfl)
        rw [bI_f (by rw [hm]; simpa using y)] at this
        exact this
      · have := h M (hE M rfl)
        rw [bI_t (by rw [hm]; simpa using y)] at this
        exact this
    · obtain ⟨a1, a2, a3, a4⟩ := w7 z
      have hpc := pct_rg hw ht hp z
      have hm := mF_2 (v := v) hw ht hp z
      have hnb := fun a a0 a1 => (hb p hp a a0 a1).2.2.1 z
      refine t_doesMatch_138 hs ?_
      rw [e65]
      refine ⟨hv300, ⟨hvr, w3⟩, fun y => ?_, fun y => ?_⟩
      · refine t_doesMatch_158 hs ⟨⟨by omega, by omega⟩, fun _ => ⟨Or.inl rfl, ?_⟩, fun z => absurd rfl z⟩
        have hf : ¬ mF D p v = true := fun q => y (hm.mp q).1
        have := h M ⟨fun _ _ => rfl, fun _ _ _ _ => rfl, fun q => absurd q hf⟩
        rw [bI_f hf] at this
        exact this
      · have hl : D 65 v = D 70 p := Classical.not_not.mp y
        have key : ∀ (k x : Nat) (M1 : xM), (x : Int) + k = pct D p → (∀ j, j ≠ 82 → M1 j = M j) → (∀ a, 0 ≤ a → a < 16 → (∀ j, 0 ≤ j → j < (x : Int) → ¬ nmb D (prt D p j) a) → M1 82 a = M 82 a) → (∀ j, 0 ≤ j → j < (x : Int) → mF D (prt D p j) (D 66 (3 * v + j)) = true) → (∀ a j, 0 ≤ a → a < 16 → 0 ≤ j → j < (x : Int) → nmb D (prt D p j) a → M1 82 a = nvF D (prt D p j) (D 66 (3 * v + j)) a) → R_doesMatch_158 e d p v (D 70 p) 1 x M1 Q := by
          intro k
          induction k with
          | zero =>
            intro x M1 hx g1 g2 g3 g4
            obtain ⟨d, rfl⟩ : ∃ d', d = d' + 1 := ⟨d - 1, by omega⟩
            have hmt : mF D p v = true := hm.mpr ⟨hl, fun j j0 j1 => g3 j j0 (by omega)⟩
            refine t_doesMatch_158 hs ⟨⟨by omega, by omega⟩, fun q => absurd q (by decide), fun _ => ⟨hp300, ?_⟩⟩
            rw [g1 69 (by decide), e69]
            have hi6 := ht.2.1 (D 69 p) w1.1 (by have := ht.1.2; omega)
            refine s_countOf hs (by have := ht.1.2; omega) ?_
            rw [g1 61 (by decide), hst 61 (by decide) (by decide)]
            show (_ ∧ rg (pct D p)) ∧ ((pct D p ≤ (x : Int) → _) ∧ (¬ (pct D p ≤ (x : Int)) → _))
            refine ⟨⟨⟨by omega, by omega⟩, ⟨by omega, by omega⟩⟩, fun _ => ⟨Or.inr rfl, ?_⟩, fun q => absurd (by omega) q⟩
            have := h M1 ⟨g1, fun a a0 a1 ha => g2 a a0 a1 (fun j j0 j1 hj => ha ((hnb a a0 a1).1.mpr ⟨j, j0, by omega, hj⟩)), fun _ a a0 a1 ha => ?_⟩
            · rw [bI_t hmt] at this; exact this
            · obtain ⟨j, j0, j1, hj⟩ := (hnb a a0 a1).1.mp ha
              rw [g4 a j a0 a1 j0 (by omega) hj, nvF_2 hw ht hb hp z a0 a1 j0 j1 hj]
          | succ k ihk =>
            intro x M1 hx g1 g2 g3 g4
            obtain ⟨d', rfl⟩ : ∃ d', d = d' + 1 := ⟨d - 1, by omega⟩
            refine t_doesMatch_158 hs ⟨⟨by omega, by omega⟩, fun q => absurd q (by decide), fun _ => ⟨hp300, ?_⟩⟩
            rw [g1 69 (by decide), e69]
            have hi6 := ht.2.1 (D 69 p) w1.1 (by have := ht.1.2; omega)
            refine s_countOf hs (by have := ht.1.2; omega) ?_
            rw [g1 61 (by decide), hst 61 (by decide) (by decide)]
            show (_ ∧ rg (pct D p)) ∧ ((pct D p ≤ (x : Int) → _) ∧ (¬ (pct D p ≤ (x : Int)) → _))
            refine ⟨⟨⟨by omega, by omega⟩, ⟨by omega, by omega⟩⟩, fun q => absurd q (by omega), fun _ => ⟨by omega, by omega, ?_⟩⟩
            rw [g1 71 (by decide), e71, g1 66 (by decide), hst 66 (by decide) (by decide)]
            obtain ⟨pw1, pw2⟩ := prt_w (j := x) hw ht hp z (by omega) (by omega)
            have hvp := vOf_pt (j := x) hw hv hp z hvo hl (by omega) (by omega)
            have hst1 : ∀ c, 59 < c → c < 80 → M1 c = D c := fun c c0 c1 => by rw [g1 c (by omega)]; exact hst c c0 c1
            refine ih (d' + 1) (prt D p x) (D 66 (3 * v + x)) M1 _ (by omega) pw1 (by omega) hvp hst1 (fun M3 hM3 => ?_)
            obtain ⟨m1, m2, m3⟩ := hM3
            have m1' : ∀ j, j ≠ 82 → M3 j = M j := fun j hj => by rw [m1 j hj, g1 j hj]
            by_cases c : mF D (prt D p x) (D 66 (3 * v + x)) = true
            · rw [bI_t c]
              refine ihk (x + 1) M3 (by omega) m1' (fun a a0 a1 hno => ?_) (fun j j0 j1 => ?_) (fun a j a0 a1 j0 j1 hj => ?_)
              · rw [m2 a a0 a1 (hno x (by omega) (by omega))]
                exact g2 a a0 a1 (fun j j0 j1 => hno j j0 (by omega))
              · by_cases q : j = x
                · rw [q]; exact c
                · exact g3 j j0 (by omega)
              · by_cases q : j = x
                · subst q; exact m3 c a a0 a1 hj
                · rw [m2 a a0 a1 (fun hx => (hnb a a0 a1).2 j x j0 (by omega) (by omega) ⟨hj, hx⟩)]
                  exact g4 a j a0 a1 j0 (by omega) hj
            · rw [bI_f c]
              have hf : ¬ mF D p v = true := fun q => c ((hm.mp q).2 x (by omega) (by omega))
              refine t_doesMatch_158 hs ⟨⟨by omega, by omega⟩, fun _ => ⟨Or.inl rfl, ?_⟩, fun q => absurd rfl q⟩
              have := h M3 ⟨m1', fun a a0 a1 ha => ?_, fun q => absurd q hf⟩
              · rw [bI_f hf] at this; exact this
              · have hno : ∀ j, 0 ≤ j → j < pct D p → ¬ nmb D (prt D p j) a := fun j j0 j1 hj => ha ((hnb a a0 a1).1.mpr ⟨j, j0, j1, hj⟩)
                rw [m2 a a0 a1 (hno x (by omega) (by omega))]
                exact g2 a a0 a1 (fun j j0 j1 => hno j j0 (by omega))
        exact key (pct D p).toNat 0 M (by omega) (fun _ _ => rfl) (fun _ _ _ _ => rfl) (fun j j0 j1 => by omega) (fun a j _ _ j0 j1 => by omega)
    · obtain ⟨a1, a2, a3, a4, a5⟩ := w8 z
      have hm := mF_3 (v := v) hw ht hp z
      refine t_doesMatch_77 hs ⟨a1, fun M1 e1 => ⟨by omega, ?_⟩⟩
      have f1 : ∀ j, j ≠ 82 → M1 j = M j := fun j hj => by rw [e1, xrd hj]
      rw [f1 71 (by decide), e71, prt_0 (D := D) (p := p)]
      refine ih d (prt D p 0) v M1 _ (by omega) a2 (by omega) ⟨hvo.1, by rw [a4]; exact hvo.2⟩ (fun c c0 c1 => by rw [f1 c (by omega)]; exact hst c c0 c1) (fun M3 hM3 => ⟨bI_01, ?_⟩)
      obtain ⟨m1, m2, m3⟩ := hM3
      rw [hm] at h
      refine h M3 ⟨fun j hj => by rw [m1 j hj, f1 j hj], fun a a0 a1' ha => ?_, fun q a a0 a1' ha => ?_⟩
      · have hn := (hb p hp a a0 a1').2.2.2.1 z
        rw [m2 a a0 a1' (fun y => ha (hn.1.mpr (Or.inr y))), e1, xri (fun y => ha (hn.1.mpr (Or.inl y.symm)))]
      · have hn := (hb p hp a a0 a1').2.2.2.1 z
        rw [nvF_3 hw ht hp z]
        rw [hm] at q
        by_cases y : D 70 p = a
        · rw [if_pos y, m2 a a0 a1' (fun w => hn.2 ⟨y, w⟩), e1, ← y, xrs]
        · rw [if_neg y]
          rcases hn.1.mp ha with w | w
          · exact absurd w y
          · exact m3 q a a0 a1' w
    · obtain ⟨a1, a2⟩ := w9 z
      have hm := mF_4 (v := v) hw ht hp z
      obtain ⟨p0, p0', p0''⟩ := a1 0 (by omega) (by omega)
      obtain ⟨p1, p1', p1''⟩ := a1 1 (by omega) (by omega)
      have q0 := (hw.2 _ p0).2.1
      have q1 := (hw.2 _ p1).2.1
      refine t_doesMatch_98 hs ⟨by omega, ?_⟩
      rw [e71, prt_0 (D := D) (p := p)]
      refine ih d (prt D p 0) v M _ (by omega) p0 (by omega) ⟨hvo.1, by rw [p0'']; exact hvo.2⟩ hst (fun M1 hM1 => ⟨bI_rg, fun y => ?_, fun y => ?_⟩)
      · have c : mF D (prt D p 0) v = true := Classical.not_not.mp (fun w => y (bI_0.mpr w))
        obtain ⟨m1, m2, m3⟩ := hM1
        have hmt : mF D p v = true := by rw [hm, c]; rfl
        have := h M1 ⟨m1, fun a a0 a1' ha => m2 a a0 a1' (fun w => ha (((hb p hp a a0 a1').2.2.2.2 z).1.mpr w)), fun _ a a0 a1' ha => ?_⟩
        · rw [bI_t hmt] at this; exact this
        · rw [nvF_4 hw ht hp z, if_pos c]
          exact m3 c a a0 a1' (((hb p hp a a0 a1').2.2.2.2 z).1.mp ha)
      · have c : ¬ mF D (prt D p 0) v = true := bI_0.mp (Classical.not_not.mp y)
        obtain ⟨m1, m2, m3⟩ := hM1
        refine ⟨by omega, ?_⟩
        rw [m1 71 (by decide), e71]
        refine ih d (prt D p 1) v M1 _ (by omega) p1 (by omega) ⟨hvo.1, by rw [p1'']; exact hvo.2⟩ (fun c c0 c1 => by rw [m1 c (by omega)]; exact hst c c0 c1) (fun M2 hM2 => ?_)
        obtain ⟨k1, k2, k3⟩ := hM2
        have hmt : mF D p v = mF D (prt D p 1) v := by
          rw [hm]
          cases hx : mF D (prt D p 0) v with
          | true => exact absurd hx c
          | false => rfl
        have hgo := h M2 ⟨fun j hj => by rw [k1 j hj, m1 j hj], fun a a0 a1' ha => by rw [k2 a a0 a1' (fun w => ha (((hb p hp a a0 a1').2.2.2.2 z).2.mpr w)), m2 a a0 a1' (fun w => ha (((hb p hp a a0 a1').2.2.2.2 z).1.mpr w))], fun q a a0 a1' ha => ?_⟩
        · refine ⟨bI_rg, fun w => ?_, fun w => ?_⟩
          · rw [hmt, bI_f (bI_0.mp w)] at hgo; exact hgo
          · rw [hmt, bI_t (Classical.not_not.mp (fun u => w (bI_0.mpr u)))] at hgo; exact hgo
        · rw [nvF_4 hw ht hp z, if_neg c]
          rw [hmt] at q
          exact k3 q a a0 a1' (((hb p hp a a0 a1').2.2.2.2 z).2.mp ha)
end RDM
