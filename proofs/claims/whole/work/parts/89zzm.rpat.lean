/-! ===== the reference: patterns ===== -/
def rpP (M M' : xM) (kd t h w b ei : Int) : Prop := (∀ c, c ≠ 59 → c ≠ 68 → c ≠ 69 → c ≠ 70 → c ≠ 72 → c ≠ 73 → c ≠ 74 → M' c = M c) ∧ (M' 59 18 = M 59 18 + 1 ∧ ∀ i, i ≠ 18 → M' 59 i = M 59 i) ∧ (M' 68 (M 59 18) = kd ∧ M' 69 (M 59 18) = t ∧ M' 70 (M 59 18) = h ∧ M' 72 (M 59 18) = w ∧ M' 73 (M 59 18) = b ∧ M' 74 (M 59 18) = ei) ∧ ∀ i, i ≠ M 59 18 → M' 68 i = M 68 i ∧ M' 69 i = M 69 i ∧ M' 70 i = M 70 i ∧ M' 72 i = M 72 i ∧ M' 73 i = M 73 i ∧ M' 74 i = M 74 i
section RPA
variable {e : yE} {d : Nat} {M L M' : xM} {kd t h w b ei n : Int} {a : Int → Int}
theorem pGr_of (hL : ∀ c, c ≠ 59 → c ≠ 71 → L c = M c) (hL59 : ∀ i, i ≠ 0 → L 59 i = M 59 i) (h71 : ∀ j, 0 ≤ j → j < n → L 71 (3 * M 59 18 + j) = a j) (h71' : ∀ i, i < 3 * M 59 18 → L 71 i = M 71 i) (hp : rpP L M' kd t h w b ei) : pGr M M' kd t h w b ei n a ∧ ∀ c, (c < 59 ∨ 99 < c) → M' c = M c := by
  obtain ⟨p1, ⟨p2, p2'⟩, p3, p4⟩ := hp
  rw [hL59 18 (by decide)] at p2 p3 p4
  rw [hL 68 (by decide) (by decide), hL 69 (by decide) (by decide), hL 70 (by decide) (by decide), hL 72 (by decide) (by decide), hL 73 (by decide) (by decide), hL 74 (by decide) (by decide)] at p4
  have e71 : M' 71 = L 71 := p1 71 (by decide) (by decide) (by decide) (by decide) (by decide) (by decide) (by decide)
  refine ⟨⟨fun c hc hc2 => ?_, ⟨p2, fun i i0 i1 => by rw [p2' i i1, hL59 i i0]⟩, p3, p4, ?_, ?_⟩, fun c hc => ?_⟩
  · rw [p1 c (by omega) (by omega) (by omega) (by omega) (by omega) (by omega) (by omega), hL c (by omega) (by omega)]
  · rw [e71]; exact h71
  · rw [e71]; exact h71'
  · rw [p1 c (by omega) (by omega) (by omega) (by omega) (by omega) (by omega) (by omega), hL c (by omega) (by omega)]
theorem s_addPat {Q : Int → xM → Prop} (hs : RSh e) (hP : 0 ≤ M 59 18 ∧ M 59 18 < 300) (hei : ei = 0 ∨ ei = 1) (hq : ∀ M', rpP M M' kd t h w b ei → Q (M 59 18) M') : R_addPattern e (d + 1) kd t h w b ei M Q := by
  refine t_addPattern (t_addPattern_0 hs ⟨hP, fun M1 e1 => ?_⟩)
  have q1 : M1 59 18 = M 59 18 := by rw [e1, xrd (by decide)]
  rw [q1]
  refine ⟨hP, fun M2 e2 => ?_⟩
  have q2 : M2 59 18 = M 59 18 := by rw [e2, xrd (by decide), q1]
  rw [q2]
  refine ⟨hP, fun M3 e3 => ?_⟩
  have q3 : M3 59 18 = M 59 18 := by rw [e3, xrd (by decide), q2]
  rw [q3]
  refine ⟨hP, fun M4 e4 => ?_⟩
  have q4 : M4 59 18 = M 59 18 := by rw [e4, xrd (by decide), q3]
  rw [q4]
  refine ⟨hP, fun M5 e5 => ?_⟩
  have q5 : M5 59 18 = M 59 18 := by rw [e5, xrd (by decide), q4]
  rw [q5]
  refine ⟨⟨hP, hei⟩, fun M6 e6 M7 e7 => ?_⟩
  have q6 : M6 59 18 = M 59 18 := by rw [e6, xrd (by decide), q5]
  have q7 : M7 59 18 = M 59 18 + 1 := by rw [e7, xrs, q6]
  rw [q7, show M 59 18 + 1 - 1 = M 59 18 by omega]
  refine hq M7 ⟨fun c y0 y1 y2 y3 y4 y5 y6 => ?_, ⟨q7, fun i hi => ?_⟩, ⟨?_, ?_, ?_, ?_, ?_, ?_⟩, fun i hi => ⟨?_, ?_, ?_, ?_, ?_, ?_⟩⟩
  · rw [e7, xrd y0, e6, xrd y6, e5, xrd y5, e4, xrd y4, e3, xrd y3, e2, xrd y2, e1, xrd y1]
  · rw [e7, xri hi, e6, xrd (by decide), e5, xrd (by decide), e4, xrd (by decide), e3, xrd (by decide), e2, xrd (by decide), e1, xrd (by decide)]
  · rw [e7, xrd (by decide), e6, xrd (by decide), e5, xrd (by decide), e4, xrd (by decide), e3, xrd (by decide), e2, xrd (by decide), e1, xrs]
  · rw [e7, xrd (by decide), e6, xrd (by decide), e5, xrd (by decide), e4, xrd (by decide), e3, xrd (by decide), e2, xrs]
  · rw [e7, xrd (by decide), e6, xrd (by decide), e5, xrd (by decide), e4, xrd (by decide), e3, xrs]
  · rw [e7, xrd (by decide), e6, xrd (by decide), e5, xrd (by decide), e4, xrs]
  · rw [e7, xrd (by decide), e6, xrd (by decide), e5, xrs]
  · rw [e7, xrd (by decide), e6, xrs]
  · rw [e7, xrd (by decide), e6, xrd (by decide), e5, xrd (by decide), e4, xrd (by decide), e3, xrd (by decide), e2, xrd (by decide), e1, xri hi]
  · rw [e7, xrd (by decide), e6, xrd (by decide), e5, xrd (by decide), e4, xrd (by decide), e3, xrd (by decide), e2, xri hi, e1, xrd (by decide)]
  · rw [e7, xrd (by decide), e6, xrd (by decide), e5, xrd (by decide), e4, xrd (by decide), e3, xri hi, e2, xrd (by decide), e1, xrd (by decide)]
  · rw [e7, xrd (by decide), e6, xrd (by decide), e5, xrd (by decide), e4, xri hi, e3, xrd (by decide), e2, xrd (by decide), e1, xrd (by decide)]
  · rw [e7, xrd (by decide), e6, xrd (by decide), e5, xri hi, e4, xrd (by decide), e3, xrd (by decide), e2, xrd (by decide), e1, xrd (by decide)]
  · rw [e7, xrd (by decide), e6, xri hi, e5, xrd (by decide), e4, xrd (by decide), e3, xrd (by decide), e2, xrd (by decide), e1, xrd (by decide)]
theorem s_exactly_r {v : Int} {Q : Int → xM → Prop} (hs : RSh e) (hP : 0 ≤ M 59 18 ∧ M 59 18 ≤ 300) (h0 : M 59 18 = 300 → Q (-1) (xup M 59 0 0)) (h1 : M 59 18 < 300 → ∀ M', rpP (xup M 59 0 0) M' 1 0 v 1 0 0 → Q (M 59 18) M') : R_exactly e (d + 2) v M Q := by
  refine t_exactly (t_exactly_0 hs (fun M1 e1 => ?_))
  have q : M1 59 18 = M 59 18 := by rw [e1, xri (by decide)]
  rw [q]
  refine ⟨⟨by omega, by omega⟩, fun z => s_addPat hs (by rw [q]; omega) (Or.inl rfl) (fun M' hp => by rw [q]; rw [e1] at hp; exact h1 (by omega) M' hp), fun z => by rw [e1]; exact h0 (Classical.not_not.mp z)⟩
theorem s_any_r {v : Int} {Q : Int → xM → Prop} (hs : RSh e) (hP : 0 ≤ M 59 18 ∧ M 59 18 ≤ 300) (h8 : 1 ≤ M 59 1 ∧ M 59 1 ≤ 8) (ht : rg t) (hv : rg v) (h0 : ¬ ((0 ≤ t ∧ t < M 59 1) ∧ (v = -1 ∨ (0 ≤ v ∧ v < 16)) ∧ M 59 18 < 300) → Q (-1) (xup M 59 0 0)) (h1 : (0 ≤ t ∧ t < M 59 1) → (v = -1 ∨ (0 ≤ v ∧ v < 16)) → M 59 18 < 300 → ∀ M', rpP (xup M 59 0 0) M' 0 t v 1 (if v = -1 then 0 else xshl32 1 v) 0 → Q (M 59 18) M') : R_any e (d + 2) t v M Q := by
  refine t_any (t_any_0 hs (fun M1 e1 => ?_))
  have q : M1 59 18 = M 59 18 := by rw [e1, xri (by decide)]
  have q1 : M1 59 1 = M 59 1 := by rw [e1, xri (by decide)]
  rw [← e1] at h0 h1
  have fin : (0 ≤ t ∧ t < M 59 1) → (v = -1 ∨ (0 ≤ v ∧ v < 16)) → R_any_25 e (d + 1) t v M1 Q := by
    intro u1 u2
    refine t_any_25 hs ?_
    rw [q]
    refine ⟨⟨by omega, by omega⟩, fun z => ⟨hv, fun y => ?_, fun y => ?_⟩, fun z => h0 (fun u => z (by omega))⟩
    · refine s_addPat hs (by rw [q]; omega) (Or.inl rfl) (fun M' hp => ?_)
      rw [q]
      refine h1 u1 u2 (by omega) M' ?_
      rw [if_neg y]; exact hp
    · refine s_addPat hs (by rw [q]; omega) (Or.inl rfl) (fun M' hp => ?_)
      rw [q]
      refine h1 u1 u2 (by omega) M' ?_
      rw [if_pos (Classical.not_not.mp y)]; exact hp
  refine s_isType hs ht (by rw [q1]; exact ⟨by omega, by omega⟩) ?_
  rw [q1]
  refine ⟨bI_rg, fun z => h0 (fun u => bI_0.mp z u.1), fun z => ?_⟩
  have u1 : 0 ≤ t ∧ t < M 59 1 := Classical.not_not.mp (fun u => z (bI_0.mpr u))
  refine ⟨hv, fun y => fin u1 (Or.inl y), fun y => s_isName hv ⟨bI_rg, fun x => h0 (fun u => ?_), fun x => fin u1 (Or.inr (Classical.not_not.mp (fun u => x (bI_0.mpr u))))⟩⟩
  rcases u.2.1 with w | w
  · exact y w
  · exact bI_0.mp x w
theorem bit_01 {x : Int} (hx : nmW x) (n0 : 0 ≤ n) (n1 : n < 16) : rg (xand32 (xshr32 x n) 1) := by
  have hb : x.toNat >>> n.toNat ≤ x.toNat := Nat.shiftRight_le _ _
  obtain ⟨x0, x1⟩ := hx
  rw [xshr_nat x0 (by omega) n0 n1]
  generalize x.toNat >>> n.toNat = K at hb ⊢
  rw [xand32_nat (by omega) (by omega) (by omega) (by omega), Int.toNat_natCast, show (1 : Int).toNat = 1 from rfl]
  have : K &&& 1 ≤ 1 := Nat.and_le_right
  exact ⟨by omega, by omega⟩
theorem s_also_r {v p : Int} {Q : Int → xM → Prop} (hs : RSh e) (hwp : wfP M) (hx : rfX M) (hv : rg v) (hp : rg p) (h0 : ¬ ((0 ≤ v ∧ v < 16) ∧ isP M p ∧ M 59 18 < 300 ∧ ¬ nmb M p v ∧ M 72 p ≤ 39) → Q (-1) (xup M 59 0 0)) (h1 : (0 ≤ v ∧ v < 16) → isP M p → M 59 18 < 300 → ¬ nmb M p v → M 72 p ≤ 39 → ∀ M', rpP (xup (xup M 59 0 0) 71 (3 * M 59 18) p) M' 3 (M 69 p) v (M 72 p + 1) (xor32 (M 73 p) (xshl32 1 v)) (M 74 p) → Q (M 59 18) M') : R_also e (d + 2) v p M Q := by
  have hP := hwp.1
  refine t_also (t_also_0 hs (fun M1 e1 => ?_))
  have q : M1 59 18 = M 59 18 := by rw [e1, xri (by decide)]
  have f : ∀ c, c ≠ 59 → M1 c = M c := fun c hc => by rw [e1, xrd hc]
  rw [← e1] at h0 h1
  refine s_isName hv ⟨bI_rg, fun z => h0 (fun u => bI_0.mp z u.1), fun z => ?_⟩
  have u1 : 0 ≤ v ∧ v < 16 := Classical.not_not.mp (fun u => z (bI_0.mpr u))
  refine s_isPattern hs hp (by rw [q]; exact ⟨by omega, by omega⟩) ?_
  rw [q]
  refine ⟨bI_rg, fun z => h0 (fun u => bI_0.mp z u.2.1), fun z => ?_⟩
  have u2 : isP M p := Classical.not_not.mp (fun u => z (bI_0.mpr u))
  have u2' := u2.2
  have p3 : 0 ≤ p ∧ p < 300 := ⟨u2.1, by omega⟩
  refine ⟨⟨by omega, by omega⟩, fun z => h0 (fun u => by omega), fun z => ?_⟩
  have nW : nmW (M 73 p) := (hx.2.2 p u2).2
  refine t_hasName (t_hasName_0 hs ⟨p3, ?_⟩)
  rw [f 73 (by decide)]
  have go : ¬ nmb M p v → (0 ≤ p ∧ p < 300) ∧ ((rg (M1 72 p)) ∧ (((M1 72 p) ≤ (39 : Int) → ((0 ≤ ((3 : Int) * (M1 59 18)) ∧ ((3 : Int) * (M1 59 18)) < 900) ∧ (∀ M8 : xM, M8 = xup M1 71 ((3 : Int) * (M1 59 18)) p → ((0 ≤ p ∧ p < 300) ∧ ((0 ≤ p ∧ p < 300) ∧ ((0 ≤ p ∧ p < 300) ∧ ((0 ≤ p ∧ p < 300) ∧ (R_addPattern e (d + 1) (3 : Int) (M8 69 p) v ((M8 72 p) + (1 : Int)) (xor32 (M8 73 p) (xshl32 (1 : Int) v)) (M8 74 p) M8 (fun y10 M9 => Q y10 M9))))))))) ∧ (¬ ((M1 72 p) ≤ (39 : Int)) → (Q (-1 : Int) M1)))) := by
    intro hnb
    have hw := (hwp.2 p u2).2.1
    rw [f 72 (by decide), q]
    refine ⟨p3, ⟨by omega, by omega⟩, fun y => ⟨by omega, fun M8 e8 => ⟨p3, p3, p3, p3, ?_⟩⟩, fun y => h0 (fun u => y u.2.2.2.2)⟩
    have f8 : ∀ c, c ≠ 59 → c ≠ 71 → M8 c = M c := fun c y1 y2 => by rw [e8, xrd y2, f c y1]
    have q8 : M8 59 18 = M 59 18 := by rw [e8, xrd (by decide), q]
    rw [f8 69 (by decide) (by decide), f8 72 (by decide) (by decide), f8 73 (by decide) (by decide), f8 74 (by decide) (by decide)]
    refine s_addPat hs (by rw [q8]; omega) (hx.2.2 p u2).1 (fun M' hp' => ?_)
    rw [q8]
    rw [e8] at hp'
    exact h1 u1 u2 (by omega) hnb y M' hp'
  refine ⟨bit_01 nW u1.1 u1.2, fun y => ⟨⟨by omega, by omega⟩, fun x => absurd rfl x, fun _ => go y⟩, fun y => ⟨⟨by omega, by omega⟩, fun _ => h0 (fun u => u.2.2.2.1 (Classical.not_not.mp y)), fun x => absurd (by decide) x⟩⟩
theorem s_either_r {p q : Int} {Q : Int → xM → Prop} (hs : RSh e) (hwp : wfP M) (hwt : wfT M) (hx : rfX M) (hp : rg p) (hq : rg q) (h0 : ¬ (isP M p ∧ isP M q ∧ M 59 18 < 300 ∧ M 69 p = M 69 q ∧ M 73 p = M 73 q ∧ 1 + M 72 p + M 72 q ≤ 40) → Q (-1) (xup M 59 0 0)) (h1 : isP M p → isP M q → M 59 18 < 300 → M 69 p = M 69 q → M 73 p = M 73 q → 1 + M 72 p + M 72 q ≤ 40 → ∀ M', rpP (xup (xup (xup M 59 0 0) 71 (3 * M 59 18) p) 71 (3 * M 59 18 + 1) q) M' 4 (M 69 p) (-1) (1 + M 72 p + M 72 q) (M 73 p) 1 → Q (M 59 18) M') : R_either e (d + 2) p q M Q := by
  have hP := hwp.1
  have h8 := hwt.1
  refine t_either (t_either_0 hs (fun M1 e1 => ?_))
  have q1 : M1 59 18 = M 59 18 := by rw [e1, xri (by decide)]
  have f : ∀ c, c ≠ 59 → M1 c = M c := fun c hc => by rw [e1, xrd hc]
  rw [← e1] at h0 h1
  refine s_isPattern hs hp (by rw [q1]; exact ⟨by omega, by omega⟩) ?_
  rw [q1]
  refine ⟨bI_rg, fun z => h0 (fun u => bI_0.mp z u.1), fun z => ?_⟩
  have u1 : isP M p := Classical.not_not.mp (fun u => z (bI_0.mpr u))
  refine s_isPattern hs hq (by rw [q1]; exact ⟨by omega, by omega⟩) ?_
  rw [q1]
  refine ⟨bI_rg, fun z => h0 (fun u => bI_0.mp z u.2.1), fun z => ?_⟩
  have u2 : isP M q := Classical.not_not.mp (fun u => z (bI_0.mpr u))
  have u1' := u1.2
  have u2' := u2.2
  have p3 : 0 ≤ p ∧ p < 300 := ⟨u1.1, by omega⟩
  have q3 : 0 ≤ q ∧ q < 300 := ⟨u2.1, by omega⟩
  refine ⟨⟨by omega, by omega⟩, fun z => ⟨p3, q3, ?_⟩, fun z => h0 (fun u => z (by omega))⟩
  obtain ⟨a1, a2, -⟩ := hwp.2 p u1
  obtain ⟨b1, b2, -⟩ := hwp.2 q u2
  have a3 := (hx.2.2 p u1).2
  have b3 := (hx.2.2 q u2).2
  rw [f 69 (by decide), f 72 (by decide), f 73 (by decide)]
  refine ⟨⟨⟨by omega, by omega⟩, ⟨by omega, by omega⟩⟩, fun y => h0 (fun u => y u.2.2.2.1), fun y => ⟨p3, q3, ⟨⟨by omega, by omega⟩, ⟨by omega, by omega⟩⟩, fun x => h0 (fun u => x u.2.2.2.2.1), fun x => ⟨p3, q3, ⟨by omega, by omega⟩, fun w => ⟨by omega, fun M6 e6 => ?_⟩, fun w => h0 (fun u => w u.2.2.2.2.2)⟩⟩⟩
  have q6 : M6 59 18 = M 59 18 := by rw [e6, xrd (by decide), q1]
  rw [q6]
  refine ⟨by omega, fun M7 e7 => ⟨p3, p3, q3, p3, ?_⟩⟩
  have f7 : ∀ c, c ≠ 59 → c ≠ 71 → M7 c = M c := fun c y1 y2 => by rw [e7, xrd y2, e6, xrd y2, f c y1]
  have q7 : M7 59 18 = M 59 18 := by rw [e7, xrd (by decide), q6]
  rw [f7 69 (by decide) (by decide), f7 72 (by decide) (by decide), f7 73 (by decide) (by decide)]
  refine s_addPat hs (by rw [q7]; omega) (Or.inr rfl) (fun M' hp' => ?_)
  rw [q7]
  rw [e7, e6] at hp'
  exact h1 u1 u2 (by omega) (Classical.not_not.mp y) (Classical.not_not.mp x) w M' hp'
end RPA
