/-! ===== the class: tell ===== -/
section CTL
variable {D : xM} {e : yE} {d : Nat} {m : Int} {mq : Nat} {M : xM} {nd : Int → aN} {pi : Int → Int → Int} {hw : Int → Int}
/-- the root's places are everywhere what they are -/
theorem pi_low {t : Nat} (hwp : wfP D) (hwt : wfT D) (hM : wfM D m) (hnds : ∀ i, 0 ≤ i → i < M t 1 → ndC D t M nd pi i ∧ prC D t m M nd pi i) (hr : nd 0 = root D m ∧ pi 0 = fun q => q) (hpa : paI D t m M nd pi hw []) : ∀ (b : Nat) (x : Int), x ≤ (b : Int) → 0 ≤ x → x < M t 1 → D 75 m ≤ (nd x).2.2.1 ∧ ∀ q, 0 ≤ q → q < D 75 m → pi x q = q := by
  obtain ⟨h6, hhw, hpar⟩ := hpa
  have r0 : D 75 m ≤ (nd 0).2.2.1 ∧ ∀ q, 0 ≤ q → q < D 75 m → pi 0 q = q := by rw [hr.1, hr.2]; exact ⟨Int.le_refl _, fun _ _ _ => rfl⟩
  intro b
  induction b with
  | zero => intro x hx x0 _; rw [show x = 0 by omega]; exact r0
  | succ b ih =>
    intro x hx x0 x1
    by_cases hx0 : x = 0
    · rw [hx0]; exact r0
    · obtain ⟨i, ⟨i0, i1, -⟩, f6, rows, at_, hsh, hcase⟩ := hpar x (by omega) x1
      obtain ⟨u1, u2⟩ := ih i (by omega) i0 (by omega)
      obtain ⟨⟨n1, n2, n3, n4⟩, hpr⟩ := hnds i i0 (by omega)
      obtain ⟨hN', hcs⟩ := wfN_shp hwp n1 hsh
      obtain ⟨rows2, at2, hsh2, p0, p1⟩ := hpr
      obtain ⟨e1, e2⟩ := Prod.mk.inj (Option.some.inj (hsh2.symm.trans hsh))
      subst e1; subst e2
      rcases hcase with ⟨hat, j, k, o, hj, hxj, hf1, hf2⟩ | ⟨hat, ⟨r, rs, hrr, hg⟩, hx7, hwx⟩
      · obtain ⟨haw, hrn, hne⟩ : (0 ≤ at2 ∧ at2 < (nd i).1) ∧ rows2 ≠ [] ∧ ∀ q ∈ rows2, ¬ (0 ≤ q.2.1 at2 ∧ D 68 (q.2.1 at2) = 4) := by
          rcases hcs with z | z
          · omega
          · exact z
        obtain ⟨k3, k5, k8, kbr⟩ := p0 hat
        obtain ⟨g1, g2, g3, g4, g5, g6, g7, g8⟩ := kbr j k o hj
        rw [← hxj] at g3 g6
        have hca := hN'.1.2.2.1 at2 haw.1 haw.2
        obtain ⟨bk1, bk2⟩ := brs_key hwp hN' haw hne (List.mem_of_getElem? hj)
        obtain ⟨bm1, bm2, bm3⟩ := bMn_nPs (o := o) hwt hca.2.2 bk2
        rw [g3, g6]
        refine ⟨by show D 75 m ≤ (nd i).2.2.1 + bMn D ((nd i).2.2.2.1 88 ((nd i).2.1 at2)) k o; omega, fun q q0 q1 => ?_⟩
        unfold piN; rw [if_pos (by omega)]; exact u2 q q0 q1
      · subst hrr
        obtain ⟨f3, f4, f5, f6'⟩ := (p1 hat).2 r rs rfl
        obtain ⟨k3, g8, g7, g6, gnd, gpi⟩ := f6' hg
        rw [← hx7] at gnd gpi
        rw [gnd, gpi]
        exact ⟨u1, u2⟩
/-- where a way goes up -/
theorem way_up {t : Nat} (hwp : wfP D) (h4 : M t 4 ≤ 360) (hnds : ∀ i, 0 ≤ i → i < M t 1 → ndC D t M nd pi i ∧ prC D t m M nd pi i) (hpa : paI D t m M nd pi hw []) : ∀ x, 0 < x → x < M t 1 → (0 ≤ M (t + 6) x ∧ M (t + 6) x < x) ∧ rg (M (t + 3) (M (t + 6) x)) ∧ (M (t + 3) (M (t + 6) x) = 0 → 0 ≤ M (t + 5) (M (t + 6) x) ∧ M (t + 5) (M (t + 6) x) < 360) := by
  intro x x0 x1
  obtain ⟨i, ⟨i0, i1, -⟩, f6, rows, at_, hsh, hcase⟩ := hpa.2.2 x x0 x1
  rw [f6]
  obtain ⟨⟨n1, n2, n3, n4⟩, hpr⟩ := hnds i i0 (by omega)
  obtain ⟨hN', hcs⟩ := wfN_shp hwp n1 hsh
  obtain ⟨rows2, at2, hsh2, p0, p1⟩ := hpr
  obtain ⟨e1, e2⟩ := Prod.mk.inj (Option.some.inj (hsh2.symm.trans hsh))
  subst e1; subst e2
  rcases hcase with ⟨hat, -⟩ | ⟨hat, ⟨r, rs, hrr, hg⟩, -⟩
  · have haw : 0 ≤ at2 ∧ at2 < (nd i).1 := by
      rcases hcs with z | z
      · omega
      · exact z.1
    obtain ⟨k3, k5, -⟩ := p0 hat
    have hca := hN'.1.2.2.1 at2 haw.1 haw.2
    have hpb := n3.1 _ hca.1.1 hca.1.2
    exact ⟨⟨i0, i1⟩, by rw [k3]; exact ⟨by omega, by omega⟩, fun _ => by rw [k5]; omega⟩
  · subst hrr
    obtain ⟨f3, f4, f5, f6'⟩ := (p1 hat).2 r rs rfl
    obtain ⟨k3, -⟩ := f6' hg
    exact ⟨⟨i0, i1⟩, by rw [k3]; exact ⟨by omega, by omega⟩, fun z => by omega⟩
theorem s_tell_c {evs : List aV} {q0 q1 : Nat} {Q : Int → xM → Prop} (hs : CSh e) (hq : XSh3 mq e) (h99 : 99 < mq) (hwp : wfP D) (hwt : wfT D) (hwv : wfV D) (hM : wfM D m) (hY : tCl M D) (hpm : M 7 0 = 0 ∧ ∀ t, 0 < t → t < D 59 1 → 0 < D 63 t → M 7 t = pMk D t) (hm0 : M mq 0 = D 75 m) (hT : stT D (mq + 5) m M nd pi evs) (hq01 : (q0 = 54 ∧ q1 = 55) ∨ (q0 = 55 ∧ q1 = 54)) (h531 : M 53 1 = (q0 : Int)) (h532 : M 53 2 = (q1 : Int))
    (hA : cntK 3 evs = 0 → Q 0 (xup M 53 3 0))
    (hB : ∀ pre v post, evs = pre ++ v :: post → v.1 = 3 → cntK 3 pre = 0 → (flS (tx D v.2.2 400) (D 75 m).toNat 0).length ≤ 4000 → ∀ M', (∀ j, j ≠ 53 → j ≠ 56 → j ≠ 57 → j ≠ q1 → M' j = M j) → (∀ x, x ≠ 1 → x ≠ 2 → x ≠ 3 → M' 53 x = M 53 x) → M' 53 1 = (q1 : Int) → M' 53 2 = (q0 : Int) → M' 53 3 = ((flS (tx D v.2.2 400) (D 75 m).toNat 0).length : Int) → (∀ (j : Nat) x, (flS (tx D v.2.2 400) (D 75 m).toNat 0)[j]? = some x → M' q1 j = x) → (∀ x ∈ flS (tx D v.2.2 400) (D 75 m).toNat 0, rg x) → Q ((flS (tx D v.2.2 400) (D 75 m).toNat 0).length : Int) M')
    (hC : ∀ pre v post, evs = pre ++ v :: post → v.1 = 3 → cntK 3 pre = 0 → 4000 < (flS (tx D v.2.2 400) (D 75 m).toNat 0).length → ∀ M', (∀ j, j ≠ 56 → j ≠ 57 → j ≠ q1 → M' j = M j) → Q (-2) M') : C_Te_tell e (d + 5) mq M Q := by
  have h75 := hM.2.1
  obtain ⟨hfin, ⟨t0, t1, t2, t4, t5⟩, hnds, hr, htl, hnm, ⟨k1, k2⟩, hw, hpa⟩ := hT
  refine c_Te_tell (c_Te_tell_0 hs hq ?_)
  by_cases hz : cntK 3 evs = 0
  · have e3 := k1 hz
    refine ⟨by rw [e3]; exact ⟨by omega, by omega⟩, fun z => absurd e3 z, fun _ M9 e9 => by rw [e9]; exact hA hz⟩
  · obtain ⟨pre, v, post, h1, h2, h3⟩ : ∃ pre v post, evs = pre ++ v :: post ∧ v.1 = 3 ∧ cntK 3 pre = 0 := by
      clear k1 k2 hfin htl hnm hA hB hC
      induction evs with
      | nil => exact absurd rfl hz
      | cons v l ih =>
        by_cases y : v.1 = 3
        · exact ⟨[], v, l, rfl, y, rfl⟩
        · have hz2 : cntK 3 (v :: l) = (if v.1 = 3 then 1 else 0) + cntK 3 l := rfl
          rw [if_neg y] at hz2
          obtain ⟨pre, v', post, h1, h2, h3⟩ := ih (by omega)
          refine ⟨v :: pre, v', post, by rw [h1]; rfl, h2, ?_⟩
          show (if v.1 = 3 then 1 else 0) + cntK 3 pre = 0
          rw [if_neg y]; omega
    obtain ⟨f1, -, f3⟩ := k2 pre v post h1 h2 h3
    obtain ⟨F, eF⟩ : ∃ F, F = M (mq + 5) 3 := ⟨_, rfl⟩
    rw [← eF] at f1 f3
    have hq1 : q1 = 54 ∨ q1 = 55 := by omega
    have hup := way_up hwp t5 hnds hpa
    obtain ⟨dp, hpb⟩ := pb_all hwp hwt hwv hM hnds hr hpa 120 F 120 (by omega) f1.1 f1.2 (by omega)
    obtain ⟨lo1, lo2⟩ := pi_low hwp hwt hM hnds hr hpa 120 F (by omega) f1.1 f1.2
    obtain ⟨⟨n1, n2, n3, n4⟩, -⟩ := hnds F f1.1 f1.2
    refine ⟨by rw [← eF]; exact ⟨by omega, by omega⟩, fun _ => ?_, fun z => absurd (by rw [← eF]; omega) z⟩
    refine s_markWay (d := d + 2) hs hq.2.2.2.2.2.2.2 (by omega) t2 hpa.1 hup (by rw [← eF]; exact f1) (fun M1 g1 g2 => ?_)
    rw [← eF] at g2
    obtain ⟨T, eT⟩ : ∃ T, T = flS (tx D v.2.2 400) (D 75 m).toNat 0 := ⟨_, rfl⟩
    -- the memory after marking
    have hY1 : tCl M1 D := tCl_cg (g1 2 (by decide)) (g1 3 (by decide)) (g1 4 (by decide)) (g1 5 (by decide)) hY
    have hpm1 : M1 7 0 = 0 ∧ ∀ t, 0 < t → t < D 59 1 → 0 < D 63 t → M1 7 t = pMk D t := by rw [g1 7 (by decide)]; exact hpm
    have hpb1 : pbI D (mq + 5) M1 (nd F) (pi F) (hw F) (mkP (mq + 5) M 120 F) dp := by
      unfold pbI at hpb ⊢
      rw [g1 (mq + 5) (by omega), g1 (mq + 5 + 9) (by omega), g1 (mq + 5 + 11) (by omega), g1 (mq + 5 + 2) (by omega)]
      exact hpb
    have hpi : ∀ q, 0 ≤ q → q < (nd F).2.2.1 → 0 ≤ pi F q ∧ pi F q < 360 := fun q y0 y1 => by have := n3.1 q y0 y1; omega
    have hty : ∀ q, 0 ≤ q → q < (nd F).2.2.1 → M1 (mq + 5 + 2) (pi F q) = (nd F).2.2.2.1 88 q := by rw [g1 (mq + 5 + 2) (by omega)]; exact n4
    have e53 : M1 53 = M 53 := g1 53 (by decide)
    have spell : C_Te_spell e (d + 4) mq M1 (fun y3 M2 => (rg y3) ∧ ((y3 ≤ (4000 : Int) → (∃ q4 nq4 : Nat, (M2 53 1 = (q4 : Int) ∧ yA e q4 1 nq4) ∧ (∃ q5 nq5 : Nat, (M2 53 2 = (q5 : Int) ∧ yA e q5 1 nq5) ∧ (∀ M6 : xM, M6 = xup M2 53 1 (q5 : Nat) → (∀ M7 : xM, M7 = xup M6 53 2 (q4 : Nat) → (∀ M8 : xM, M8 = xup M7 53 3 y3 → (Q y3 M8))))))) ∧ (¬ (y3 ≤ (4000 : Int)) → (Q (-2 : Int) M2)))) := by
      refine c_Te_spell (c_Te_spell_0 hs hq ?_)
      rw [g1 mq (by omega), hm0]
      have hloop := s_sp40 (d := d) (T := T) (a := nd F) (π := pi F) (dp := dp) (B := mkP (mq + 5) M 120 F) (hi := hw F) (Q := fun y3 M2 => (rg y3) ∧ ((y3 ≤ (4000 : Int) → (∃ q4 nq4 : Nat, (M2 53 1 = (q4 : Int) ∧ yA e q4 1 nq4) ∧ (∃ q5 nq5 : Nat, (M2 53 2 = (q5 : Int) ∧ yA e q5 1 nq5) ∧ (∀ M6 : xM, M6 = xup M2 53 1 (q5 : Nat) → (∀ M7 : xM, M7 = xup M6 53 2 (q4 : Nat) → (∀ M8 : xM, M8 = xup M7 53 3 y3 → (Q y3 M8))))))) ∧ (¬ (y3 ≤ (4000 : Int)) → (Q (-2 : Int) M2)))) hs hq h99 hwt hwv hY1 hpm1 hpb1 g2 hpi hty (by rw [g1 (mq + 5) (by omega)]; exact t5) (by rw [g1 (mq + 5) (by omega)]; exact t2) hq1 (by rw [e53]; exact h532) (fun M' n' r1 r2 => ?_)
      · -- the root's places are open
        have key : ∀ (n : Nat) (cur : List (Int × Int × List Int)) (M2 : xM), (n : Int) ≤ D 75 m → (cur.length : Int) + n = D 75 m → txt cur = flS (tx D v.2.2 400) cur.length n → stk (itm D (mq + 5) M1 (nd F) (pi F) dp) (M2 57) cur → (∀ j, j ≠ 57 → M2 j = M1 j) → C_Te_spell_15 e (d + 3) mq cur.length ((n : Int) - 1) M2 (fun y3 M2 => (rg y3) ∧ ((y3 ≤ (4000 : Int) → (∃ q4 nq4 : Nat, (M2 53 1 = (q4 : Int) ∧ yA e q4 1 nq4) ∧ (∃ q5 nq5 : Nat, (M2 53 2 = (q5 : Int) ∧ yA e q5 1 nq5) ∧ (∀ M6 : xM, M6 = xup M2 53 1 (q5 : Nat) → (∀ M7 : xM, M7 = xup M6 53 2 (q4 : Nat) → (∀ M8 : xM, M8 = xup M7 53 3 y3 → (Q y3 M8))))))) ∧ (¬ (y3 ≤ (4000 : Int)) → (Q (-2 : Int) M2)))) := by
          intro n
          induction n with
          | zero =>
            intro cur M2 hn hl htx hst hf
            refine c_Te_spell_15 hs hq ⟨⟨by omega, by omega⟩, fun _ => ?_, fun z => absurd (by omega) z⟩
            exact hloop (txt cur).length cur M2 [] (Nat.le_refl _) (by rw [htx, eT, show (D 75 m).toNat = cur.length by omega]; rfl) (by show 0 ≤ 4001; decide) hst (fun j y1 _ => hf j y1) (fun j x hj => by cases hj) (fun x hx => by cases hx)
          | succ n ih =>
            intro cur M2 hn hl htx hst hf
            obtain ⟨dq1, -⟩ := hpb1.2.2.1 n (by omega) (by omega)
            obtain ⟨lv, lv2, lv3⟩ := it_place (n := 400) (q := n) hpb1 g2 hpi hty (by omega) (by omega) (by omega)
            rw [lo2 n (by omega) (by omega), f3] at lv3
            refine c_Te_spell_15 hs hq ⟨⟨by omega, by omega⟩, fun z => absurd z (by omega), fun _ => ⟨by omega, fun M3 e3 => ?_⟩⟩
            have := ih (((n : Int), lv, tx D v.2.2 400 n) :: cur) M3 (by omega) (by rw [List.length_cons]; omega) (by rw [List.length_cons]; show _ ++ txt cur = _; rw [htx]; rfl) ⟨by rw [e3, xrs]; show ((n + 1 : Nat) : Int) - 1 = (n : Int); omega, lv3, ⟨by show (cur.length : Int) + 1 ≤ 2 * lv + 3; omega, lv2.2⟩, stk_cg cur (fun i i0 i1 => by rw [e3, xri (by omega)]) hst⟩ (fun j hj => by rw [e3, xrd hj]; exact hf j hj)
            rw [List.length_cons] at this
            rw [show ((n + 1 : Nat) : Int) - 1 + -1 = (n : Int) - 1 by omega]
            exact this
        have := key (D 75 m).toNat [] M1 (by omega) (by show (0 : Int) + _ = _; omega) rfl trivial (fun _ _ => rfl)
        rw [show (((D 75 m).toNat : Nat) : Int) - 1 = D 75 m - 1 by omega] at this
        exact this
      · have yq : ∀ qq : Nat, qq = 54 ∨ qq = 55 → yA e qq 1 4000 := fun qq hqq => by rcases hqq with z | z <;> subst z; exact caa_54 hs; exact caa_55 hs
        have r53 : M' 53 = M 53 := by rw [r1 53 (by decide) (by omega), e53]
        rcases r2 with ⟨s1, s2, s3, s4⟩ | ⟨s1, s2⟩
        · have hl : (flS (tx D v.2.2 400) (D 75 m).toNat 0).length ≤ 4000 := by rw [← eT]; omega
          refine ⟨⟨by omega, by omega⟩, fun _ => ⟨q0, 4000, ⟨by rw [r53]; exact h531, yq q0 (by omega)⟩, q1, 4000, ⟨by rw [r53]; exact h532, yq q1 hq1⟩, fun M6 e6 M7 e7 M8 e8 => ?_⟩, fun z => absurd s2 z⟩
          rw [s1, eT]
          refine hB pre v post h1 h2 h3 hl M8 (fun j y1 y2 y3 y4 => ?_) (fun x y1 y2 y3 => ?_) ?_ ?_ ?_ (fun j x hj => ?_) (by rw [← eT]; exact s4)
          · rw [e8, xrd y1, e7, xrd y1, e6, xrd y1, r1 j y3 y4, g1 j y2]
          · rw [e8, xri y3, e7, xri y2, e6, xri y1, r53]
          · rw [e8, xri (by decide), e7, xri (by decide), e6, xrs]
          · rw [e8, xri (by decide), e7, xrs]
          · rw [e8, xrs, s1, eT]
          · rw [e8, xrd (by omega), e7, xrd (by omega), e6, xrd (by omega)]
            exact s3 j x (by rw [eT]; exact hj)
        · exact ⟨by rw [s1]; exact ⟨by omega, by omega⟩, fun z => absurd z (by omega), fun _ => hC pre v post h1 h2 h3 (by rw [← eT]; exact s2) M' (fun j y1 y2 y3 => by rw [r1 j y2 y3, g1 j y1])⟩
    exact spell
end CTL
