/-! ===== both sides answer alike: run ===== -/
def rom (e : yE) (M : xM) (cs cl : Nat) : Prop := (e.2.1 : Int) ≤ 2650000 + 6 * ((cs : Int) + cl) + 5000 * M 59 25 ∧ (e.1 : Int) ≤ 100 + cs + cl + 18 * M 59 25
/-- how large sizes may be -/
def Bq : Nat → Int
  | 0 => 1
  | n + 1 => 1 + 3 * Bq n
/-- how many types have a size -/
def cpF (f : Int → Int) : Nat → Nat
  | 0 => 0
  | n + 1 => cpF f n + (if 0 < f ((n : Int) + 1) then 1 else 0)
/-- what else holds of the reference: plain values, sizes, names -/
def rfX (M : xM) : Prop := (M 63 0 = 1 ∧ (∀ t, 0 ≤ t → t < 8 → 0 ≤ M 63 t ∧ M 63 t ≤ 100000 ∧ M 63 t ≤ Bq (cpF (M 63) 7)) ∧ (∀ t, M 59 1 ≤ t → t < 8 → M 60 t = 0 ∧ M 63 t = 0) ∧ ∀ t, 0 < t → t < M 59 1 → (∀ k, 0 ≤ k → k < M 60 t → 0 < mSz M t k → 0 < M 63 t ∧ M 63 t ≤ mSz M t k) ∧ (0 < M 63 t → ∃ k, (0 ≤ k ∧ k < M 60 t) ∧ mSz M t k = M 63 t)) ∧ (∀ v, 0 ≤ v → v < M 59 10 → 1 ≤ M 67 v ∧ M 67 v ≤ 100) ∧ ∀ p, isP M p → (M 74 p = 0 ∨ M 74 p = 1) ∧ (0 ≤ M 73 p ∧ M 73 p < 65536)
def Rel (e : yE) (M : xM) : Prop := ∃ cs cl, cRel e M M cs cl ∧ rOK M ∧ wkR M M ∧ tlR M M ∧ rfX M ∧ rom e M cs cl
section OPR
variable {e e1 : yE} {d : Nat} {M M1 M2 : xM} {cs cl cs1 cl1 : Nat}
theorem rfX_k (h : rKp M M1) (hx : rfX M) : rfX M1 := by
  have g := fun c (hc : 59 < c ∧ c < 81) => h.1 c hc.1 hc.2
  obtain ⟨-, q1, q10, q18, q25⟩ := h
  have hsz : ∀ t k, mSz M1 t k = mSz M t k := fun t k => mSz_D ⟨g 61 (by omega), g 62 (by omega), g 63 (by omega)⟩
  unfold rfX isP at *
  simp only [hsz]
  rw [g 60 (by omega), g 63 (by omega), g 67 (by omega), g 73 (by omega), g 74 (by omega), q1, q10, q18]
  exact hx
theorem rom_rm (h : rom e M cs cl) (hm : rmC e e1 cs cl cs1 cl1) (h25 : M1 59 25 = M 59 25) : rom e1 M1 cs1 cl1 := by
  obtain ⟨a, b⟩ := h
  obtain ⟨c1, c2, c3, c4, c5⟩ := hm
  unfold rom
  rw [h25]
  exact ⟨by omega, by omega⟩
/-- the class is through; the reference follows -/
theorem rel_end (hr : rOK M) (h1 : cRel e1 M1 M cs1 cl1) (hs : ∀ j, 59 ≤ j → j ≤ 99 → M1 j = M j) (hf : ∀ c i, (c < 59 ∨ 99 < c) → M2 c i = M1 c i) (hk : rKp M1 M2) (hr2 : rOK M2) (hw : wkR M2 M2) (ht : tlR M2 M2) (hx : rfX M) (hro : rom e1 M cs1 cl1) : Rel e1 M2 := by
  have k1 : rKp M M1 := ⟨fun c c0 c1 => hs c (by omega) (by omega), by rw [hs 59 (by omega) (by omega)], by rw [hs 59 (by omega) (by omega)], by rw [hs 59 (by omega) (by omega)], by rw [hs 59 (by omega) (by omega)]⟩
  have k2 := rKp_trans k1 hk
  refine ⟨cs1, cl1, cRel_k hr (fun c hc => funext fun i => hf c i (by omega)) k2 h1, hr2, hw, ht, rfX_k k2 hx, ?_⟩
  unfold rom at *
  rw [k2.2.2.2.2]; exact hro
theorem wk_b {D : xM} {m : Int} : ∀ (n : Nat) (a : aN) (va : Int → Int), 0 ≤ (wk D m n a va).1 ∧ 0 ≤ (wk D m n a va).2.1 ∧ (wk D m n a va).1 + (wk D m n a va).2.1 ≤ n := by
  intro n
  induction n with
  | zero => intro a va; exact ⟨Int.le_refl _, Int.le_refl _, Int.le_refl _⟩
  | succ n ih =>
    intro a va
    have z : (0 : Int) ≤ 0 ∧ (0 : Int) ≤ 0 ∧ (0 : Int) + 0 ≤ ((n + 1 : Nat) : Int) := by omega
    cases hq : shp D a.1 a.2.1 a.2.2.2.2 with
    | none =>
      have : wk D m (n + 1) a va = (0, 0, -1, fun _ => -1) := by rw [wk, hq]
      rw [this]; exact z
    | some q =>
      rw [wk, hq]
      show 0 ≤ (if q.2 < 0 then _ else _ : Int × Int × Int × (Int → Int)).1 ∧ 0 ≤ (if q.2 < 0 then _ else _ : Int × Int × Int × (Int → Int)).2.1 ∧ (if q.2 < 0 then _ else _ : Int × Int × Int × (Int → Int)).1 + (if q.2 < 0 then _ else _ : Int × Int × Int × (Int → Int)).2.1 ≤ _
      by_cases c0 : q.2 < 0
      · rw [if_pos c0]
        cases q.1 with
        | nil => exact z
        | cons r rs =>
          show 0 ≤ (if D 79 (12 * m + r.1) < 0 then _ else _ : Int × Int × Int × (Int → Int)).1 ∧ 0 ≤ (if D 79 (12 * m + r.1) < 0 then _ else _ : Int × Int × Int × (Int → Int)).2.1 ∧ (if D 79 (12 * m + r.1) < 0 then _ else _ : Int × Int × Int × (Int → Int)).1 + (if D 79 (12 * m + r.1) < 0 then _ else _ : Int × Int × Int × (Int → Int)).2.1 ≤ _
          by_cases c1 : D 79 (12 * m + r.1) < 0
          · rw [if_pos c1]; exact z
          · rw [if_neg c1]
            split
            · show (0 : Int) ≤ 0 ∧ (0 : Int) ≤ 1 ∧ (0 : Int) + 1 ≤ ((n + 1 : Nat) : Int); omega
            · obtain ⟨i1, i2, i3⟩ := ih (a.1, a.2.1, a.2.2.1, a.2.2.2.1, rs) va
              exact ⟨i1, by show 0 ≤ _ + (1 : Int); omega, by show _ + (_ + (1 : Int)) ≤ ((n + 1 : Nat) : Int); omega⟩
      · rw [if_neg c0]
        split
        · obtain ⟨i1, i2, i3⟩ := ih (chB D a.1 a.2.1 a.2.2.1 a.2.2.2.1 q.2 q.1 (D 65 (va (a.2.1 q.2))) false) (vaN D va a.2.2.1 (a.2.1 q.2))
          generalize wk D m n (chB D a.1 a.2.1 a.2.2.1 a.2.2.2.1 q.2 q.1 (D 65 (va (a.2.1 q.2))) false) (vaN D va a.2.2.1 (a.2.1 q.2)) = W at i1 i2 i3 ⊢
          exact ⟨by show 0 ≤ W.1 + (1 : Int); omega, i2, by show W.1 + (1 : Int) + W.2.1 ≤ ((n + 1 : Nat) : Int); omega⟩
        · split
          · obtain ⟨i1, i2, i3⟩ := ih (chB D a.1 a.2.1 a.2.2.1 a.2.2.2.1 q.2 q.1 (lA (kys D q.2 q.1 []) 0) true) va
            generalize wk D m n (chB D a.1 a.2.1 a.2.2.1 a.2.2.2.1 q.2 q.1 (lA (kys D q.2 q.1 []) 0) true) va = W at i1 i2 i3 ⊢
            exact ⟨by show 0 ≤ W.1 + (1 : Int); omega, i2, by show W.1 + (1 : Int) + W.2.1 ≤ ((n + 1 : Nat) : Int); omega⟩
          · show (0 : Int) ≤ 1 ∧ (0 : Int) ≤ 0 ∧ (1 : Int) + 0 ≤ ((n + 1 : Nat) : Int); omega
theorem out_is {D : xM} {m w : Int} {col va : Int → Int} : ∀ L : List aR, out D m w col va L = (-1, fun _ => -1) ∨ ∃ r ∈ L, rtk D m w col va r ∧ out D m w col va L = (r.1, rnv D w col va r) := by
  intro L
  induction L with
  | nil => exact Or.inl rfl
  | cons r rs ih =>
    rw [out_cs]
    by_cases c : rmb D col va r w.toNat 0 = true ∧ (D 79 (12 * m + r.1) < 0 ∨ D 65 (rnv D w col va r (D 79 (12 * m + r.1))) < D 65 (rnv D w col va r (D 80 (12 * m + r.1))))
    · rw [if_pos c]; exact Or.inr ⟨r, by simp, c, rfl⟩
    · rw [if_neg c]
      rcases ih with z | ⟨q, h1, h2, h3⟩
      · exact Or.inl z
      · exact Or.inr ⟨q, by simp [h1], h2, h3⟩
theorem out_nm {m a : Int} {va : Int → Int} (hW : wOK M) (hO : mOK M m) (hva : vaO M m va) (a0 : 0 ≤ a) (a1 : a < 16) : rg ((out M m (M 75 m) (fun k => k) va (rtL M m (M 77 m).toNat)).2 a) := by
  obtain ⟨gp, gt, gv, gb, ge⟩ := hW
  have h77 := hO.1.2.2.1
  rcases out_is (D := M) (m := m) (w := M 75 m) (col := fun k => k) (va := va) (rtL M m (M 77 m).toNat) with z | ⟨r, h1, h2, h3⟩
  · rw [z]; exact ⟨by show (-2147483648 : Int) ≤ -1; decide, by show (-1 : Int) ≤ 2147483647; decide⟩
  · obtain ⟨i, hi, rfl⟩ := rtL_mem _ h1
    rw [h3]
    show rg (rnv M (M 75 m) (fun k => k) va (rtR M m i) a)
    have i0 : (0 : Int) ≤ i := by omega
    have i1 : (i : Int) < M 77 m := by omega
    rw [rnv_rt gp gt gb hO.1 hO.2.2.1 i0 i1 a0 a1]
    have hmR := (rmb_rt gp gt hO.1 i0 i1).mp h2.1
    by_cases hx : ∃ k, (0 ≤ k ∧ k < M 75 m) ∧ nmb M (rpt M m i k) a
    · obtain ⟨k, ⟨k0, k1⟩, hk⟩ := hx
      obtain ⟨v1, v2⟩ := vaO_v hO.1 hva i0 i1 k0 k1
      rw [nR_at hO.2.2.1 i0 i1 a0 a1 k0 k1 hk]
      have := nvF_rg gp gt gv gb a0 a1 40 _ _ v1 (gp.2 _ v1).2.1.2 v2 (hmR k k0 k1) hk
      have := gv.1.2
      exact ⟨by omega, by omega⟩
    · rw [nR_no (fun k k0 k1 hk => hx ⟨k, ⟨k0, k1⟩, hk⟩)]; exact ⟨by decide, by decide⟩
theorem vaO_k {va : Int → Int} {m : Int} (h : rKp M M1) : vaO M1 m va ↔ vaO M m va := by
  have g := fun c (hc : 59 < c ∧ c < 81) => h.1 c hc.1 hc.2
  unfold vaO
  rw [g 64 (by omega), g 75 (by omega), g 76 (by omega), h.2.2.1]
theorem op_run {m a b c : Int} (h : Rel e M) (hd : 1200 ≤ d) (hm : rg m) (habc : rg a ∧ rg b ∧ rg c) : C_Mf_run e d m a b c M (fun y e1 M1 => yLe e e1 ∧ R_run e1 d m a b c M1 (fun y2 M2 => y = y2 ∧ rg y ∧ Rel e1 M2 ∧ M2 0 = M 0)) := by
  obtain ⟨cs, cl, h1, hr, hw, ht, hx, hro⟩ := h
  obtain ⟨d, rfl⟩ : ∃ d', d = d' + 9 := ⟨d - 9, by omega⟩
  have hr' := hr
  obtain ⟨hW, h20, hall, hV, h9⟩ := hr'
  have hW' := hW
  obtain ⟨gp, gt, gv, gb, ge⟩ := hW'
  obtain ⟨s1, s2, s3, s4, s5, s6, s7⟩ := h1
  have e14 : M 1 4 = M 59 25 := s4.2.2.2.2.2.1
  have h10 := gv.1
  have h8 := gt.1.2
  have ry := s4.2.2.2.2.1
  have clr81 : ∀ M3 : xM, (∀ x, 0 ≤ x → x < 16 → M3 81 x = -1) → M3 81 16 = 0 → M3 81 17 = 0 → ∀ i, 0 ≤ i → i < 18 → rg (M3 81 i) := by
    intro M3 t1 t2 t3 i i0 i1
    by_cases w1 : i < 16
    · rw [t1 i i0 w1]; exact ⟨by omega, by omega⟩
    · by_cases w2 : i = 16
      · rw [w2, t2]; exact ⟨by omega, by omega⟩
      · rw [show i = 17 by omega, t3]; exact ⟨by omega, by omega⟩
  -- the reference after a class that has changed only what it may
  have tlk : ∀ (C D : xM), C 53 = M 53 → C 54 = M 54 → C 55 = M 55 → D 59 55 = M 59 55 → D 99 = M 99 → tlR C D := by
    intro C D q1 q2 q3 q4 q5
    obtain ⟨q0, q1', t1, t2, t3, t4, t5, t6⟩ := ht
    refine ⟨q0, q1', t1, by rw [q1]; exact t2, by rw [q1]; exact t3, by rw [q1, q4]; exact t4, by rw [q4]; exact t5, fun i i0 i1 => ?_⟩
    rw [q4] at i1
    rw [q5]
    refine ⟨?_, (t6 i i0 i1).2⟩
    rw [← (t6 i i0 i1).1]
    rcases t1 with z | z
    · rw [z.1, q2]
    · rw [z.1, q3]
  refine c_Mf_run (c_Mf_run_0 s1 (s_giveC s1 (fun M1 g1 g58 => s_isMatchC s1 hm (by rw [g1 1 (by decide), e14]; exact ⟨by omega, by omega⟩) ⟨bI_rg, fun z => ?_, fun z => ?_⟩)))
  · rw [g1 1 (by decide), e14, bI_0] at z
    -- no match
    refine s_wclear (d := d + 6) s1 (c8_45 s1) (Or.inl rfl) (fun M2 k1 k2 k3 k4 k5 => ⟨yLe.rf, ?_⟩)
    have fM : ∀ j, j ≠ 58 → j ≠ 45 → j ≠ 46 → M2 j = M j := fun j y1 y2 y3 => by rw [k1 j y2 y3, g1 j y1]
    have hr2 : rOK M2 := rOK_s hr ⟨fun cc c0 c1 => fM cc (by omega) (by omega) (by omega), by rw [fM 59 (by decide) (by decide) (by decide)], by rw [fM 59 (by decide) (by decide) (by decide)], by rw [fM 59 (by decide) (by decide) (by decide)], by rw [fM 59 (by decide) (by decide) (by decide)]⟩ (fM 96 (by decide) (by decide) (by decide)) (fM 97 (by decide) (by decide) (by decide)) (fM 98 (by decide) (by decide) (by decide))
    have c2 : cRel e M2 M cs cl := cRel_k hr (fun cc hc => fM cc (by omega) (by omega) (by omega)) rKp_rf ⟨s1, s2, s3, s4, s5, s6, s7⟩
    have e25 : M2 59 25 = M 59 25 := by rw [fM 59 (by decide) (by decide) (by decide)]
    refine s_run_r s2 (by omega) hr2 hm habc (fun _ M3 f3 r3 t1 t2 t3 => ⟨rfl, ⟨by omega, by omega⟩, rel_end hr c2 (fun j j0 j1 => fM j (by omega) (by omega) (by omega)) (fun cc i hc => f3 cc i (by omega)) (rKp_R f3) r3 ⟨fun x x0 x1 => ?_, ?_, ?_, fun i i0 i1 => ?_⟩ (tlk M3 M3 ?_ ?_ ?_ ?_ ?_) hx hro, ?_⟩) (fun hz => absurd (by rw [e25] at hz; exact hz) z) (fun hz => absurd (by rw [e25] at hz; exact hz) z)
    · rw [frR_c f3 46 (by omega), k5 x x0 x1, t1 x x0 x1]
    · rw [frR_c f3 45 (by omega), k3, t2]
    · rw [frR_c f3 45 (by omega), k4, t3]
    · exact clr81 M3 t1 t2 t3 i i0 i1
    · rw [frR_c f3 53 (by omega), fM 53 (by decide) (by decide) (by decide)]
    · rw [frR_c f3 54 (by omega), fM 54 (by decide) (by decide) (by decide)]
    · rw [frR_c f3 55 (by omega), fM 55 (by decide) (by decide) (by decide)]
    · rw [f3 59 55 (by omega), fM 59 (by decide) (by decide) (by decide)]
    · rw [frR_c f3 99 (by omega), fM 99 (by decide) (by decide) (by decide)]
    · rw [frR_c f3 0 (by omega), fM 0 (by decide) (by decide) (by decide)]
  · have hmm : 0 ≤ m ∧ m < M 59 25 := by
      have := Classical.not_not.mp (fun u => z (bI_0.mpr u))
      rw [g1 1 (by decide), e14] at this; exact this
    obtain ⟨mq, m1, m2, m3, m4, m5, m6, m7⟩ := s5 m hmm.1 hmm.2
    have hO := (hall m hmm.1 hmm.2).1
    have h75 := hO.1.2.1
    have c1 : cRel e M1 M cs cl := cRel_k hr (fun cc hc => g1 cc (by omega)) rKp_rf ⟨s1, s2, s3, s4, s5, s6, s7⟩
    have q28 : M1 28 m = (mq : Int) := by rw [g1 28 (by decide)]; exact m1
    have q0 : M1 mq 0 = M 75 m := by rw [g1 mq (by omega)]; exact m4.1
    have q81 : M1 8 1 = M 59 10 := by rw [g1 8 (by decide)]; exact ry.1
    have pr : ∀ q, rg (pk3 q a b c) := fun q => by unfold pk3; split; exact habc.1; split; exact habc.2.1; exact habc.2.2
    refine ⟨by omega, mq, ⟨q28, m2⟩, by omega, mq, ⟨q28, m2⟩, ?_⟩
    rw [q0]
    have hcond : (∀ q, 0 ≤ q → q < M 75 m → (0 ≤ M1 58 q ∧ M1 58 q < M1 8 1) ∧ M1 (8 + 2) (M1 58 q) = M1 (mq + 1) q) ↔ vaO M m (fun q => pk3 q a b c) := by
      constructor
      · intro hh q q0' q1'
        obtain ⟨u1, u2⟩ := hh q q0' q1'
        rw [g58 q q0' (by omega)] at u1 u2
        rw [q81] at u1
        rw [g1 (8 + 2) (by decide), g1 (mq + 1) (by omega), m4.2.2.1 q q0' q1'] at u2
        have u2 : M 10 (pk3 q a b c) = M 76 (3 * m + q) := u2
        rw [ry.2 _ u1.1 u1.2] at u2
        exact ⟨u1, u2⟩
      · intro hh q q0' q1'
        obtain ⟨u1, u2⟩ := hh q q0' q1'
        rw [g58 q q0' (by omega), q81, g1 (8 + 2) (by decide), g1 (mq + 1) (by omega), m4.2.2.1 q q0' q1']
        refine ⟨u1, ?_⟩
        show M 10 (pk3 q a b c) = _
        rw [ry.2 _ u1.1 u1.2]; exact u2
    refine s_areOfC (d := d + 5) s1 (c5_8 s1) (a3_1 m2) (caa_58 s1) (by omega) rfl rfl (fun q y0 y1 => ?_) (by rw [q81]; exact h10) (fun i i0 i1 => ?_) (fun hyes => ⟨⟨by omega, by omega⟩, fun _ => ⟨by omega, mq, ⟨q28, m2⟩, ?_⟩, fun z => absurd (by decide) z⟩) (fun hno => ⟨⟨by omega, by omega⟩, fun z => absurd rfl z, fun _ => ?_⟩)
    · rw [g58 q y0 (by omega), g1 (mq + 1) (by omega), m4.2.2.1 q y0 y1]
      have := hO.1.2.2.2.1 q y0 y1
      exact ⟨pr q, ⟨by omega, by omega⟩⟩
    · rw [q81] at i1
      rw [g1 (8 + 2) (by decide)]
      show rg (M 10 i)
      rw [ry.2 i i0 i1]
      have := (gv.2 i i0 i1).2.1; exact ⟨by omega, by omega⟩
    · have hva := hcond.mp hyes
      refine s_standsR hr c1 hmm.1 hmm.2 q28 (fun hn e' C' cs' cl' c2 l2 rm2 kp2 => ⟨l2, ⟨by omega, by omega⟩, fun z => absurd rfl z, fun _ => ⟨l2, ?_⟩⟩) (fun evs nd pi e' C' cs' cl' hT c2 l2 rm2 kp2 => ⟨l2, ⟨by omega, by omega⟩, fun _ => ⟨by omega, mq, ⟨by rw [kp2 28 (by omega)]; exact q28, m2.le l2⟩, ?_⟩, fun z => absurd (by decide) z⟩)
      · -- too large
        have fM : ∀ j, 59 ≤ j → j ≤ 99 → C' j = M j := fun j j0 j1 => by rw [kp2 j (by omega), g1 j (by omega)]
        have k2 : rKp M C' := ⟨fun cc c0 c1 => fM cc (by omega) (by omega), by rw [fM 59 (by omega) (by omega)], by rw [fM 59 (by omega) (by omega)], by rw [fM 59 (by omega) (by omega)], by rw [fM 59 (by omega) (by omega)]⟩
        have hr2 : rOK C' := rOK_s hr k2 (fM 96 (by omega) (by omega)) (fM 97 (by omega) (by omega)) (fM 98 (by omega) (by omega))
        have hva2 := (vaO_k (m := m) (va := fun q => pk3 q a b c) k2).mpr hva
        have hfin : fin_ C' m 120 [root C' m] = fin_ M m 120 [root M m] := fin_cg gp gt hO.1 (cng_K k2)
        refine s_run_r (RSh_le s2 l2) (by omega) hr2 hm habc (fun hz => absurd ⟨by rw [k2.2.2.2.2]; exact hmm, hva2⟩ hz) (fun _ _ _ M3 f3 r3 t1 => ⟨rfl, ⟨by omega, by omega⟩, rel_end hr c2 fM (fun cc i hc => f3 cc i (by omega)) (rKp_R f3) r3 ⟨fun x x0 x1 => ?_, ?_, ?_, fun i i0 i1 => ?_⟩ (tlk M3 M3 ?_ ?_ ?_ ?_ ?_) hx (rom_rm hro rm2 rfl), ?_⟩) (fun _ _ evs he => by rw [hfin, hn] at he; cases he)
        · rw [frR_c f3 46 (by omega), kp2 46 (by omega), g1 46 (by decide), t1, fM 81 (by omega) (by omega)]; exact hw.1 x x0 x1
        · rw [frR_c f3 45 (by omega), kp2 45 (by omega), g1 45 (by decide), t1, fM 81 (by omega) (by omega)]; exact hw.2.1
        · rw [frR_c f3 45 (by omega), kp2 45 (by omega), g1 45 (by decide), t1, fM 81 (by omega) (by omega)]; exact hw.2.2.1
        · rw [t1, fM 81 (by omega) (by omega)]; exact hw.2.2.2 i i0 i1
        · rw [frR_c f3 53 (by omega), kp2 53 (by omega), g1 53 (by decide)]
        · rw [frR_c f3 54 (by omega), kp2 54 (by omega), g1 54 (by decide)]
        · rw [frR_c f3 55 (by omega), kp2 55 (by omega), g1 55 (by decide)]
        · rw [f3 59 55 (by omega), fM 59 (by omega) (by omega)]
        · rw [frR_c f3 99 (by omega), fM 99 (by omega) (by omega)]
        · rw [frR_c f3 0 (by omega), kp2 0 (by omega), g1 0 (by decide)]
      · -- a walk
        obtain ⟨mq', n1, n2, n3, n4, n5, n6, n7⟩ := c2.2.2.2.2.1 m hmm.1 hmm.2
        have hmm' : mq' = mq := by
          have : (mq' : Int) = mq := by rw [← n1, kp2 28 (by omega)]; exact q28
          omega
        subst hmm'
        have hs' := c2.1
        have g58' : ∀ q, 0 ≤ q → q < M 75 m → C' 58 q = pk3 q a b c := fun q y0 y1 => by rw [kp2 58 (by omega)]; exact g58 q y0 (by omega)
        refine s_follow (d := d + 4) (va := fun q => pk3 q a b c) hW hO.1 hs' (c8_45 hs') (Or.inl rfl) n2 n3 (caa_58 hs') rfl rfl hT c2.2.2.2.1.2.2.2.1 n5 n4.1 (rI_root gp gb ge hO.1 hO.2.1 hO.2.2.1 hO.2.2.2.1) g58' (vaO_ok hO.1 hva) (fun M3 k1 k2 k3 k4 k5 => ⟨l2, ?_⟩)
        have fM : ∀ j, 59 ≤ j → j ≤ 99 → M3 j = M j := fun j j0 j1 => by rw [k1 j (by omega) (by omega) (by omega), kp2 j (by omega), g1 j (by omega)]
        have kk : rKp M M3 := ⟨fun cc c0 c1 => fM cc (by omega) (by omega), by rw [fM 59 (by omega) (by omega)], by rw [fM 59 (by omega) (by omega)], by rw [fM 59 (by omega) (by omega)], by rw [fM 59 (by omega) (by omega)]⟩
        have hr3 : rOK M3 := rOK_s hr kk (fM 96 (by omega) (by omega)) (fM 97 (by omega) (by omega)) (fM 98 (by omega) (by omega))
        have c3 : cRel e' M3 M cs' cl' := cRel_k hr (fun cc hc => k1 cc (by omega) (by omega) (by omega)) rKp_rf c2
        have hva3 := (vaO_k (m := m) (va := fun q => pk3 q a b c) kk).mpr hva
        have hwk := wk_cg (va := fun q => pk3 q a b c) gp gt hO.1 kk
        have hfin : fin_ M3 m 120 [root M3 m] = fin_ M m 120 [root M m] := fin_cg gp gt hO.1 (cng_K kk)
        have hor := out_rg (va := fun q => pk3 q a b c) hW hO
        have hwr := wk_root hW hO hT.1 hva
        refine s_run_r (RSh_le s2 l2) (by omega) hr3 hm habc (fun hz => absurd ⟨by rw [kk.2.2.2.2]; exact hmm, hva3⟩ hz) (fun _ _ hz => by rw [hfin, hT.1] at hz; cases hz) (fun _ _ evs' he M4 f4 r4 t1 t2 t3 => ⟨by rw [hwk], by rw [hwr.1]; exact ⟨by omega, by omega⟩, rel_end hr c3 fM (fun cc i hc => f4 cc i (by omega)) (rKp_R f4) r4 ⟨fun x x0 x1 => ?_, ?_, ?_, fun i i0 i1 => ?_⟩ (tlk M4 M4 ?_ ?_ ?_ ?_ ?_) hx (rom_rm hro rm2 rfl), ?_⟩)
        · rw [frR_c f4 46 (by omega), t3 x x0 x1, hwk]; exact k5 x x0 x1
        · rw [frR_c f4 45 (by omega), t1, hwk]; exact k3
        · rw [frR_c f4 45 (by omega), t2, hwk]; exact k4
        · by_cases w1 : i < 16
          · rw [t3 i i0 w1, hwk, hwr.2 i i0 w1]; exact out_nm hW hO hva i0 w1
          · obtain ⟨b1, b2, b3⟩ := wk_b (D := M) (m := m) 120 (root M m) (fun q => pk3 q a b c)
            by_cases w2 : i = 16
            · rw [w2, t1, hwk]; exact ⟨by omega, by omega⟩
            · rw [show i = 17 by omega, t2, hwk]; exact ⟨by omega, by omega⟩
        · rw [frR_c f4 53 (by omega), k1 53 (by decide) (by decide) (by decide), kp2 53 (by omega), g1 53 (by decide)]
        · rw [frR_c f4 54 (by omega), k1 54 (by decide) (by decide) (by decide), kp2 54 (by omega), g1 54 (by decide)]
        · rw [frR_c f4 55 (by omega), k1 55 (by decide) (by decide) (by decide), kp2 55 (by omega), g1 55 (by decide)]
        · rw [f4 59 55 (by omega), fM 59 (by omega) (by omega)]
        · rw [frR_c f4 99 (by omega), fM 99 (by omega) (by omega)]
        · rw [frR_c f4 0 (by omega), k1 0 (by decide) (by decide) (by decide), kp2 0 (by omega), g1 0 (by decide)]
    · -- other values
      have hnv := fun w => hno (hcond.mpr w)
      refine s_wclear (d := d + 6) s1 (c8_45 s1) (Or.inl rfl) (fun M2 k1 k2 k3 k4 k5 => ⟨yLe.rf, ?_⟩)
      have fM : ∀ j, j ≠ 58 → j ≠ 45 → j ≠ 46 → M2 j = M j := fun j y1 y2 y3 => by rw [k1 j y2 y3, g1 j y1]
      have kk : rKp M M2 := ⟨fun cc c0 c1 => fM cc (by omega) (by omega) (by omega), by rw [fM 59 (by decide) (by decide) (by decide)], by rw [fM 59 (by decide) (by decide) (by decide)], by rw [fM 59 (by decide) (by decide) (by decide)], by rw [fM 59 (by decide) (by decide) (by decide)]⟩
      have hr2 : rOK M2 := rOK_s hr kk (fM 96 (by decide) (by decide) (by decide)) (fM 97 (by decide) (by decide) (by decide)) (fM 98 (by decide) (by decide) (by decide))
      have c2 : cRel e M2 M cs cl := cRel_k hr (fun cc hc => fM cc (by omega) (by omega) (by omega)) rKp_rf ⟨s1, s2, s3, s4, s5, s6, s7⟩
      refine s_run_r s2 (by omega) hr2 hm habc (fun _ M3 f3 r3 t1 t2 t3 => ⟨rfl, ⟨by omega, by omega⟩, rel_end hr c2 (fun j j0 j1 => fM j (by omega) (by omega) (by omega)) (fun cc i hc => f3 cc i (by omega)) (rKp_R f3) r3 ⟨fun x x0 x1 => ?_, ?_, ?_, fun i i0 i1 => ?_⟩ (tlk M3 M3 ?_ ?_ ?_ ?_ ?_) hx hro, ?_⟩) (fun _ hz => absurd ((vaO_k kk).mp hz) hnv) (fun _ hz => absurd ((vaO_k kk).mp hz) hnv)
      · rw [frR_c f3 46 (by omega), k5 x x0 x1, t1 x x0 x1]
      · rw [frR_c f3 45 (by omega), k3, t2]
      · rw [frR_c f3 45 (by omega), k4, t3]
      · exact clr81 M3 t1 t2 t3 i i0 i1
      · rw [frR_c f3 53 (by omega), fM 53 (by decide) (by decide) (by decide)]
      · rw [frR_c f3 54 (by omega), fM 54 (by decide) (by decide) (by decide)]
      · rw [frR_c f3 55 (by omega), fM 55 (by decide) (by decide) (by decide)]
      · rw [f3 59 55 (by omega), fM 59 (by decide) (by decide) (by decide)]
      · rw [frR_c f3 99 (by omega), fM 99 (by decide) (by decide) (by decide)]
      · rw [frR_c f3 0 (by omega), fM 0 (by decide) (by decide) (by decide)]
end OPR
