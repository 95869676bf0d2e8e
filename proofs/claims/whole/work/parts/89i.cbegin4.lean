/-! ===== the class: begin, whole ===== -/
/-- a tree has begun -/
def bgN (D : xM) (t mq : Nat) (m : Int) (e : yE) (M : xM) (cs cl : Nat) (e' : yE) (M' : xM) (cs' cl' : Nat) : Prop :=
  (hpP e' M' cs' cl' ∧ yLe e e' ∧ rmC e e' cs cl cs' cl') ∧
  (∀ j, j < e.1 → j ≠ 29 → j ≠ 30 → j ≠ 34 → j ≠ 38 → j ≠ 39 → j ≠ 40 → j ≠ 43 → j ≠ 44 → ¬ (t ≤ j ∧ j ≤ t + 11) → ¬ isC e j → M' j = M j) ∧
  (∀ x, x ≠ 5 → x ≠ 13 → x ≠ 15 → x ≠ 16 → x ≠ 17 → M' 29 x = M 29 x) ∧ M' 29 16 = (mq : Int) ∧ M' 29 17 = (t : Int) ∧
  (M' t 0 = 0 ∧ M' t 1 = 1 ∧ M' t 2 = 0 ∧ M' t 3 = -1 ∧ M' t 4 = D 75 m) ∧ (∀ x, 0 ≤ x → x < 4 → M' (t + 1) x = 0) ∧ (∀ k, 0 ≤ k → k < D 75 m → M' (t + 2) k = D 76 (3 * m + k)) ∧ M' (t + 6) 0 = -1 ∧ wtg M' [0] ∧
  kpt D M' (fun q => q) (D 75 m) (fun k => k) 0 (rtL D m (D 77 m).toNat) ∧ M' 30 0 = 2 * D 77 m ∧ M' 34 0 ≤ 19 * D 77 m
section CBJ
variable {D : xM} {d : Nat} {t mq : Nat} {m : Int}
theorem s_fill {e : yE} {M : xM} {Q : xM → Prop} {a n : Nat} {v : Int} (hs : CSh e) (ha : yA e a 1 n) (hn : n ≤ 1000) (h : ∀ M', (∀ j, j ≠ a → M' j = M j) → (∀ x : Int, 0 ≤ x → x < n → M' a x = v) → Q M') : C_Ar_fill e (d + 1) a n v M Q := by
  refine c_Ar_fill (c_Ar_fill_0 hs ha ?_)
  refine for_up (fun k M' => C_Ar_fill_5 e d a n v k n M' Q) (fun k M' => 0 ≤ k ∧ (∀ j, j ≠ a → M' j = M j) ∧ ∀ x, 0 ≤ x → x < k → M' a x = v) n ?_ ?_ 0 M (by omega) ⟨by omega, fun _ _ => rfl, fun x x0 x1 => by omega⟩
  · rintro k M' ⟨k0, g1, g2⟩ hlt hgo
    refine c_Ar_fill_5 hs ha ⟨⟨⟨by omega, by omega⟩, ⟨by omega, by omega⟩⟩, fun z => absurd z (by omega), fun _ => ⟨by omega, fun M1 e1 => hgo M1 ⟨by omega, fun j hj => by rw [e1, xrd hj]; exact g1 j hj, fun x x0 x1 => ?_⟩⟩⟩
    rw [e1]
    by_cases z : x = k
    · rw [z, xrs]
    · rw [xri z]; exact g2 x x0 (by omega)
  · rintro M' ⟨k0, g1, g2⟩
    exact c_Ar_fill_5 hs ha ⟨⟨⟨by omega, by omega⟩, ⟨by omega, by omega⟩⟩, fun _ => h M' g1 g2, fun z => absurd (by omega) z⟩
theorem s_clearT {e : yE} {M : xM} {Q : xM → Prop} (hs : CSh e) (ht : XSh6 t e) (h : ∀ M', (∀ j, j ≠ t → j ≠ t + 1 → M' j = M j) → (M' t 0 = 0 ∧ M' t 1 = 0 ∧ M' t 2 = 0 ∧ M' t 3 = -1 ∧ M' t 4 = 0) → (∀ x, 0 ≤ x → x < 4 → M' (t + 1) x = 0) → Q M') : C_Tr_clear e (d + 2) t M Q := by
  refine c_Tr_clear (c_Tr_clear_0 hs ht (fun M1 e1 M2 e2 M3 e3 M4 e4 M5 e5 => ?_))
  refine s_fill (n := 4) hs (a6_1 ht) (by omega) (fun M6 g1 g2 => h M6 (fun j h1 h2 => ?_) ?_ g2)
  · rw [g1 j h2, e5, xrd h1, e4, xrd h1, e3, xrd h1, e2, xrd h1, e1, xrd h1]
  · rw [g1 t (by omega)]
    refine ⟨?_, ?_, ?_, ?_, ?_⟩
    · rw [e5, xri (by decide), e4, xri (by decide), e3, xri (by decide), e2, xri (by decide), e1, xrs]
    · rw [e5, xri (by decide), e4, xri (by decide), e3, xri (by decide), e2, xrs]
    · rw [e5, xri (by decide), e4, xri (by decide), e3, xrs]
    · rw [e5, xri (by decide), e4, xrs]
    · rw [e5, xrs]
theorem s_begin {e : yE} {cs cl : Nat} {M : xM} {Q : yE → xM → Prop} (hw : wfP D) (hwb : wfB D) (hM : wfM D m) (hno : ∀ r, 0 ≤ r → r < D 77 m → rno D m r) (hs : CSh e) (hP : hpP e M cs cl) (hC : pCl M D) (hq : XSh3 mq e) (hmt : mq + 5 = t) (h99 : 99 < mq) (hm : mCl M mq D m)
    (h : ∀ e' M' cs' cl', bgN D t mq m e M cs cl e' M' cs' cl' → Q e' M') : C_Bu_begin e (d + 6) mq M Q := by
  have h75 := hM.2.1
  have h77 := hM.2.2.1
  have hX : XSh6 t e := by rw [← hmt]; exact hq.2.2.2.2.2.2.2
  refine c_Bu_begin (c_Bu_begin_0 hs hq (fun M1 e1 M2 e2 => ?_))
  rw [hmt] at e2
  have r17 : M2 29 17 = (t : Int) := by rw [e2, xrs]
  have r16 : M2 29 16 = (mq : Int) := by rw [e2, xri (by decide), e1, xrs]
  have k2 : ∀ j, j ≠ 29 → M2 j = M j := fun j hj => by rw [e2, xrd hj, e1, xrd hj]
  have k29 : ∀ x, x ≠ 16 → x ≠ 17 → M2 29 x = M 29 x := fun x h1 h2 => by rw [e2, xri h2, e1, xri h1]
  refine ⟨t, ⟨r17, hX⟩, s_clearT (d := d + 3) hs hX (fun M4 g1 g2 g3 M5 e5 M6 e6 M7 e7 => ?_)⟩
  have k7 : ∀ j, j ≠ 29 → j ≠ 30 → j ≠ 34 → j ≠ t → j ≠ t + 1 → M7 j = M j := fun j h1 h2 h3 h4 h5 => by rw [e7, xrd h1, e6, xrd h3, e5, xrd h2, g1 j h4 h5]; exact k2 j h1
  have l29 : ∀ x, x ≠ 5 → M7 29 x = M2 29 x := fun x hx => by rw [e7, xri hx, e6, xrd (by decide), e5, xrd (by decide), g1 29 (by omega) (by omega)]
  have l5 : M7 29 5 = 0 := by rw [e7, xrs]
  have lt : M7 t = M4 t := by rw [e7, xrd (by omega), e6, xrd (by omega), e5, xrd (by omega)]
  have lt1 : M7 (t + 1) = M4 (t + 1) := by rw [e7, xrd (by omega), e6, xrd (by omega), e5, xrd (by omega)]
  have z30 : M7 30 0 = 0 := by rw [e7, xrd (by decide), e6, xrd (by decide), e5, xrs]
  have z34 : M7 34 0 = 0 := by rw [e7, xrd (by decide), e6, xrs]
  have n30 : ∀ x, x ≠ 0 → M7 30 x = M 30 x := fun x hx => by rw [e7, xrd (by decide), e6, xrd (by decide), e5, xri hx, g1 30 (by omega) (by omega), k2 30 (by decide)]
  have n34 : ∀ x, x ≠ 0 → M7 34 x = M 34 x := fun x hx => by rw [e7, xrd (by decide), e6, xri hx, e5, xrd (by decide), g1 34 (by omega) (by omega), k2 34 (by decide)]
  have hmq0 := hq.2.1
  -- the places
  have key : ∀ (j : Nat) (k : Int) (M8 : xM), 0 ≤ k → k + (j : Int) = D 75 m → (∀ j, j ≠ t → j ≠ t + 2 → M8 j = M7 j) → (∀ x, x ≠ 4 → M8 t x = M7 t x) → M8 t 4 = k → (∀ x, 0 ≤ x → x < k → M8 (t + 2) x = D 76 (3 * m + x)) → C_Bu_begin_43 e (d + 5) mq k M8 Q := by
    intro j
    induction j with
    | zero =>
      intro k M8 k0 k1 f1 f2 f4 f3
      have f16 : M8 29 16 = (mq : Int) := by rw [f1 29 (by omega) (by omega), l29 16 (by decide)]; exact r16
      have f17 : M8 29 17 = (t : Int) := by rw [f1 29 (by omega) (by omega), l29 17 (by decide)]; exact r17
      have fm : ∀ i : Nat, i < 5 → M8 (mq + i) = M (mq + i) := fun i hi => by rw [f1 (mq + i) (by omega) (by omega)]; exact k7 (mq + i) (by omega) (by omega) (by omega) (by omega) (by omega)
      have m8 : mCl M8 mq D m := mCl_cg (fm 0 (by omega)) (fm 1 (by omega)) (fm 2 (by omega)) hm
      have t1 : M8 t 1 = 0 := by rw [f2 1 (by decide), lt]; exact g2.2.1
      refine c_Bu_begin_43 hs hq ⟨mq, ⟨f16, hq⟩, by rw [m8.1]; exact ⟨⟨by omega, by omega⟩, ⟨by omega, by omega⟩⟩, fun _ => ⟨t, ⟨f17, hX⟩, ?_⟩, fun z => absurd (by rw [m8.1]; omega) z⟩
      refine s_addBranches (d := d + 4) (n := 1) hs hX (by omega) (by omega) (by omega) (fun z => absurd (by omega) z) ?_
      rw [t1]
      intro _ M9 v1 v2 v3 v4 v5 v6
      refine ⟨by omega, fun Ma ea => ?_⟩
      have q1 : ∀ j, j ≠ 40 → j ≠ t → j ≠ t + 6 → j ≠ t + 7 → j ≠ t + 8 → Ma j = M8 j := fun j h1 h2 h3 h4 h5 => by rw [ea, xrd h1]; exact v1 j h2 h3 h4 h5
      have q2 : ∀ j, j ≠ 29 → j ≠ 30 → j ≠ 34 → j ≠ 40 → ¬ (t ≤ j ∧ j ≤ t + 11) → Ma j = M j := fun j h1 h2 h3 h4 h5 => by rw [q1 j h4 (by omega) (by omega) (by omega) (by omega), f1 j (by omega) (by omega)]; exact k7 j h1 h2 h3 (by omega) (by omega)
      have q3 : ∀ j, j < 59 → j ≠ 40 → Ma j = M7 j := fun j h0 h4 => by rw [q1 j h4 (by omega) (by omega) (by omega) (by omega), f1 j (by omega) (by omega)]
      have qt : ∀ x, x ≠ 1 → Ma t x = M8 t x := fun x hx => by rw [ea, xrd (by omega)]; exact v2 x hx
      have qt1 : Ma t 1 = 1 := by rw [ea, xrd (by omega), v3]; omega
      have hPa : hpP e Ma cs cl := ⟨hpC_sz hP.1 (fun x hx => by rw [q3 30 (by decide) (by decide)]; exact n30 x hx) (fun x hx => by rw [q3 34 (by decide) (by decide)]; exact n34 x hx) (by rw [q3 30 (by decide) (by decide)]; exact z30) (by rw [q3 34 (by decide) (by decide)]; exact z34), hP.2⟩
      have hTa : hTr e Ma t := ⟨hX, by rw [q3 29 (by decide) (by decide), l29 17 (by decide)]; exact r17, by omega⟩
      refine s_begin95 (d := d) (fp := D 75 m) hw hwb hM hno hs hPa (pCl_cg (q2 19 (by decide) (by decide) (by decide) (by decide) (by omega)) (q2 21 (by decide) (by decide) (by decide) (by decide) (by omega)) (q2 24 (by decide) (by decide) (by decide) (by decide) (by omega)) hC) hTa hq hmt h99 (by rw [q3 29 (by decide) (by decide), l29 16 (by decide)]; exact r16) (mCl_cg (q2 mq (by omega) (by omega) (by omega) (by omega) (by omega)) (q2 (mq + 1) (by omega) (by omega) (by omega) (by omega) (by omega)) (q2 (mq + 2) (by omega) (by omega) (by omega) (by omega) (by omega)) hm) (by rw [ea, xrs]) (by rw [q3 30 (by decide) (by decide)]; exact z30) (by rw [q3 34 (by decide) (by decide)]; exact z34) ⟨by rw [q3 29 (by decide) (by decide)]; exact l5, fun k x hk => by simp at hk⟩ ?_
      intro e' M' M'' cs' cl' s1 s2 s3 s4 s5 p1 p2 p3
      have hs' := hs.le s1.2.1
      obtain ⟨b1, b2, b3, b4, b5, b6⟩ := s1.2.2.2.1
      obtain ⟨hp7, gr7, -⟩ := hpC_cg (M' := M'') s1.1.1 (p1 30 (by decide) (by decide)) (p1 34 (by decide) (by decide)) (fun j hj => p1 j (fun y => nC_29 hs' (by rw [← y]; exact hj)) (fun y => nC_a (caa_38 hs') (by decide) (by rw [← y]; exact hj)))
      have pt : ∀ x, x ≠ 1 → M'' t x = M8 t x := fun x hx => by rw [p1 t (by omega) (by omega), s5]; exact qt x hx
      refine h e' M'' cs' cl' ⟨⟨⟨hp7, s1.1.2⟩, s1.2.1, s1.2.2.1⟩, fun j y0 y1 y2 y3 y4 y5 y6 y7 y8 y9 y10 => ?_, fun x y1 y2 y3 y4 y5 => ?_, ?_, ?_, ⟨?_, ?_, ?_, ?_, ?_⟩, fun x x0 x1 => ?_, fun k k0 k1 => ?_, ?_, p3, ⟨by rw [p1 40 (by decide) (by decide)]; exact s2.1, fun r q hr => by rw [p1 39 (by decide) (by decide)]; exact crw_gr gr7 (s2.2 r q hr)⟩, by rw [p1 30 (by decide) (by decide)]; exact s3, by rw [p1 34 (by decide) (by decide)]; exact s4⟩
      · rw [p1 j y1 y4, b1 j y0 y1 y2 y3 y5 y6 y7 y8 (by omega) (by omega) (by omega) (by omega) (by omega) y10]
        exact q2 j y1 y2 y3 y6 y9
      · rw [p2 x y1, b2 x y2 y3, q3 29 (by decide) (by decide), l29 x y1]; exact k29 x y4 y5
      · rw [p2 16 (by decide), b2 16 (by decide) (by decide), q3 29 (by decide) (by decide), l29 16 (by decide)]; exact r16
      · rw [p2 17 (by decide), b2 17 (by decide) (by decide), q3 29 (by decide) (by decide), l29 17 (by decide)]; exact r17
      · rw [pt 0 (by decide), f2 0 (by decide), lt]; exact g2.1
      · rw [p1 t (by omega) (by omega), s5]; exact qt1
      · rw [pt 2 (by decide), f2 2 (by decide), lt]; exact g2.2.2.1
      · rw [pt 3 (by decide), f2 3 (by decide), lt]; exact g2.2.2.2.1
      · rw [pt 4 (by decide), f4]; omega
      · rw [p1 (t + 1) (by omega) (by omega), b1 (t + 1) (by omega) (by omega) (by omega) (by omega) (by omega) (by omega) (by omega) (by omega) (by omega) (by omega) (by omega) (by omega) (by omega) (nC_a (a6_1 hX) (by decide)), q1 (t + 1) (by omega) (by omega) (by omega) (by omega) (by omega), f1 (t + 1) (by omega) (by omega), lt1]
        exact g3 x x0 x1
      · rw [p1 (t + 2) (by omega) (by omega), b4 k k1, q1 (t + 2) (by omega) (by omega) (by omega) (by omega) (by omega)]
        exact f3 k k0 (by omega)
      · rw [p1 (t + 6) (by omega) (by omega), b1 (t + 6) (by omega) (by omega) (by omega) (by omega) (by omega) (by omega) (by omega) (by omega) (by omega) (by omega) (by omega) (by omega) (by omega) (nC_a (a6_6 hX) (by decide)), ea, xrd (by omega), v4 0, if_pos (by omega)]
    | succ j ih =>
      intro k M8 k0 k1 f1 f2 f4 f3
      have f16 : M8 29 16 = (mq : Int) := by rw [f1 29 (by omega) (by omega), l29 16 (by decide)]; exact r16
      have f17 : M8 29 17 = (t : Int) := by rw [f1 29 (by omega) (by omega), l29 17 (by decide)]; exact r17
      have fm : ∀ i : Nat, i < 5 → M8 (mq + i) = M (mq + i) := fun i hi => by rw [f1 (mq + i) (by omega) (by omega)]; exact k7 (mq + i) (by omega) (by omega) (by omega) (by omega) (by omega)
      have m8 : mCl M8 mq D m := mCl_cg (fm 0 (by omega)) (fm 1 (by omega)) (fm 2 (by omega)) hm
      refine c_Bu_begin_43 hs hq ⟨mq, ⟨f16, hq⟩, by rw [m8.1]; exact ⟨⟨by omega, by omega⟩, ⟨by omega, by omega⟩⟩, fun z => absurd z (by rw [m8.1]; omega), fun _ => ⟨t, ⟨f17, hX⟩, mq, ⟨f16, hq⟩, by omega, ?_⟩⟩
      rw [m8.2.2.1 k k0 (by omega)]
      refine c_Tr_addPlace (c_Tr_addPlace_0 hs hX ⟨by omega, fun Ma ea Mb eb => ?_⟩)
      rw [f4] at ea
      have a4 : Ma t 4 = k := by rw [ea, xrd (by omega)]; exact f4
      rw [a4] at eb
      refine ih (k + 1) Mb (by omega) (by omega) (fun j h1 h2 => by rw [eb, xrd h1, ea, xrd h2]; exact f1 j h1 h2) (fun x hx => by rw [eb, xri hx, ea, xrd (by omega)]; exact f2 x hx) (by rw [eb, xrs]) (fun x x0 x1 => ?_)
      rw [eb, xrd (by omega), ea]
      by_cases z : x = k
      · rw [z, xrs]
      · rw [xri z]; exact f3 x x0 (by omega)
  exact key (D 75 m).toNat 0 M7 (by omega) (by omega) (fun _ _ _ => rfl) (fun _ _ => rfl) (by rw [lt]; exact g2.2.2.2.2) (fun x x0 x1 => by omega)
end CBJ
