/-! ===== the class: begin's rows ===== -/
section CBH
variable {D : xM} {d : Nat} {t mq : Nat} {m r fp : Int}
/-- a row's patterns come to hand, its state is made and kept -/
theorem s_begin120 {e e1 : yE} {cs cl cs1 cl1 : Nat} {M M1 : xM} {Q : yE → xM → Prop} (hw : wfP D) (hwb : wfB D) (hM : wfM D m) (hr : 0 ≤ r ∧ r < D 77 m) (hno : rno D m r) (hs : CSh e) (hC : pCl M D) (hT : hTr e M t) (hq : XSh3 mq e) (hmt : mq + 5 = t) (h99 : 99 < mq) (hmq : M 29 16 = (mq : Int)) (hm : mCl M mq D m)
    (hg : stG t 0 fp e M cs cl e1 M1 cs1 cl1) (hk : kpt D M1 (fun q => q) (D 75 m) (fun k => k) 0 (rtL D m r.toNat)) (h13 : M1 29 13 = D 75 m) (h30 : M1 30 0 = 2 * r) (h34 : M1 34 0 ≤ 19 * r)
    (h : ∀ e' M' cs' cl', stG t 0 fp e M cs cl e' M' cs' cl' → yLe e1 e' → kpt D M' (fun q => q) (D 75 m) (fun k => k) 0 (rtL D m (r + 1).toNat) → M' 30 0 = 2 * (r + 1) → M' 34 0 ≤ 19 * (r + 1) → M' t = M1 t → C_Bu_begin_95 e' (d + 5) mq 0 (r + 1) M' Q) :
    C_Bu_begin_120 e1 (d + 5) mq 0 r 0 M1 Q := by
  have h75 := hM.2.1
  have h77 := hM.2.2.1
  have hs1 := hs.le hg.2.1
  have hq1 : XSh3 mq e1 := hq.le hg.2.1
  have hp : ∀ i, 0 ≤ i → i < D 75 m → isP D (rpt D m r i) := fun i i0 i1 => (hM.2.2.2.2 r i hr.1 hr.2 i0 i1).1
  have kt : ∀ {e2 e3 : yE} {Ma Mb : xM} {a b a1 b1 : Nat}, stp e2 Ma a b e3 Mb a1 b1 → CSh e2 → hTr e2 Ma t → Mb t = Ma t := fun hst hs2 hT2 => hst.2.2.2.1.1 t (ob6_lt hT2.1) (by have := hT2.2.2; omega) (by have := hT2.2.2; omega) (by have := hT2.2.2; omega) (by have := hT2.2.2; omega) (nC_t hT2.1)
  have key : ∀ (j : Nat) (k : Int) (M2 : xM), 0 ≤ k → k + (j : Int) = D 75 m → stG t 0 fp e M cs cl e1 M2 cs1 cl1 → kpt D M2 (fun q => q) (D 75 m) (fun k => k) 0 (rtL D m r.toNat) → M2 29 13 = D 75 m → M2 30 0 = 2 * r → M2 34 0 ≤ 19 * r → (∀ x, 0 ≤ x → x < k → M2 43 x = rpt D m r x) → M2 t = M1 t → C_Bu_begin_120 e1 (d + 5) mq 0 r k M2 Q := by
    intro j
    induction j with
    | zero =>
      intro k M2 k0 k1 g2 hk2 e13 e30 e34 e43 et
      obtain ⟨c0, c1, c2, c3⟩ := mCl_G hq hmt hT h99 g2
      have m2 := mCl_cg c0 c1 c2 hm
      obtain ⟨hT2, -⟩ := stG_keep hs hT g2
      have hmq2 : M2 29 16 = (mq : Int) := by rw [g2.2.2.2.1.2.1 16 (by decide) (by decide)]; exact hmq
      refine c_Bu_begin_120 hs1 hq1 ⟨mq, ⟨hmq2, hq1⟩, by rw [m2.1]; exact ⟨⟨by omega, by omega⟩, ⟨by omega, by omega⟩⟩, fun _ => ?_, fun z => absurd (by rw [m2.1]; omega) z⟩
      refine s_addS' (d := d + 3) g2.1 (by omega) ?_ hs1
      intro e3 M3 cs3 p1 p2 p3 p4 p5 p6
      have hs3 := hs1.le p1.2.1
      have g3 := stG_trans g2 (stp_stG (i := 0) (fp := fp) hs1 hT2.1 hT2.2.2 p1)
      have hT3 := (stG_keep hs hT g3).1
      have n43 : ¬ isC e1 43 := nC_43 hs1
      have f43 : M3 43 = M2 43 := p1.2.2.2.1.1 43 (Nat.lt_of_lt_of_le (by decide : 43 < 59) hs1.1) (by decide) (by decide) (by decide) (by decide) n43
      refine ⟨p1.2.1, ?_⟩
      refine s_putParts (d := d + 1) (D := D) (A := []) (X := []) (l := []) (n := (D 75 m).toNat) (f := rpt D m r) hw hs3 p1.1 (pCl_G hs hT g3 hC) (by omega) (by simp) (Or.inl rfl) (by simp) (by simp) ⟨by omega, by omega⟩ (by rw [p6.2.1]; rfl) (by rw [p6.2.2]; rfl) (by omega) (by rw [p4]; omega) (fun i i0 i1 => hp i i0 (by omega)) (fun i i0 i1 => by rw [f43]; exact e43 i i0 (by omega)) (by rw [p3]; omega) (by omega) ?_
      intro e6 M6 cs6 cl6 u1 u2 u3 u4 u5 u6
      have hs6 := hs3.le u1.2.1
      have g6 := stG_trans g3 (stp_stG (i := 0) (fp := fp) hs3 hT3.1 hT3.2.2 u1)
      have hT6 := (stG_keep hs hT g6).1
      rw [List.append_nil] at u6
      have u5 : chL M6 (pEr D 0 (rpt D m r) (D 75 m).toNat 0) (vS M6 2 (M3 30 0)) := by simpa using u5
      obtain ⟨cw, cl16⟩ := crw_root (s := M3 30 0) (M := M6) hw hwb hM hr hno (by omega) (by rw [u4]; exact p6.1) u5 u6
      have pl := pEr_len (D := D) (x := 0) (f := rpt D m r) (D 75 m).toNat 0
      have gr36 : grL M2 M6 := grL_trans p1.2.2.2.2 u1.2.2.2.2
      have n39 : ∀ {e : yE}, CSh e → ¬ isC e 39 := fun h => nC_a (caa_39 h) (by decide)
      have n40 : ∀ {e : yE}, CSh e → ¬ isC e 40 := fun h => nC_a (caa_40 h) (by decide)
      have f39 : M6 39 = M2 39 := (u1.2.2.2.1.1 39 (Nat.lt_of_lt_of_le (by decide : 39 < 59) hs3.1) (by decide) (by decide) (by decide) (by decide) (n39 hs3)).trans (p1.2.2.2.1.1 39 (Nat.lt_of_lt_of_le (by decide : 39 < 59) hs1.1) (by decide) (by decide) (by decide) (by decide) (n39 hs1))
      have f40 : M6 40 = M2 40 := (u1.2.2.2.1.1 40 (Nat.lt_of_lt_of_le (by decide : 40 < 59) hs3.1) (by decide) (by decide) (by decide) (by decide) (n40 hs3)).trans (p1.2.2.2.1.1 40 (Nat.lt_of_lt_of_le (by decide : 40 < 59) hs1.1) (by decide) (by decide) (by decide) (by decide) (n40 hs1))
      have hk6 : kpt D M6 (fun q => q) (D 75 m) (fun k => k) 0 (rtL D m r.toNat) := ⟨by rw [f40]; exact hk2.1, fun x q hx => by rw [f39]; exact crw_gr gr36 (hk2.2 x q hx)⟩
      refine ⟨u1.2.1, ?_⟩
      refine s_keepG (d := d + 4) (fp := fp) hs6 hT6 u1.1 (by omega) hk6 (by rw [rtL_len]; omega) cw ?_
      intro M8 q1 q2 q3
      refine h e6 M8 cs6 cl6 (stG_trans g6 q1) (p1.2.1.tr u1.2.1) ?_ (by rw [q3 30 (by decide) (by decide)]; omega) (by rw [q3 34 (by decide) (by decide), u3, p3, List.length_nil]; omega) (by rw [q3 t (by have := hT.2.2; omega) (by have := hT.2.2; omega)]; exact ((kt u1 hs3 hT3).trans (kt p1 hs1 hT2)).trans et)
      have e9 : rtL D m (r + 1).toNat = rtL D m r.toNat ++ [rtR D m r] := by
        rw [show (r + 1).toNat = r.toNat + 1 by omega]
        show rtL D m r.toNat ++ [rtR D m (r.toNat : Int)] = _
        rw [show ((r.toNat : Nat) : Int) = r by omega]
      rw [e9]; exact q2
    | succ j ih =>
      intro k M2 k0 k1 g2 hk2 e13 e30 e34 e43 et
      obtain ⟨c0, c1, c2, c3⟩ := mCl_G hq hmt hT h99 g2
      have m2 := mCl_cg c0 c1 c2 hm
      obtain ⟨hT2, -⟩ := stG_keep hs hT g2
      have hmq2 : M2 29 16 = (mq : Int) := by rw [g2.2.2.2.1.2.1 16 (by decide) (by decide)]; exact hmq
      refine c_Bu_begin_120 hs1 hq1 ⟨mq, ⟨hmq2, hq1⟩, by rw [m2.1]; exact ⟨⟨by omega, by omega⟩, ⟨by omega, by omega⟩⟩, fun z => absurd z (by rw [m2.1]; omega), fun _ => ⟨mq, ⟨hmq2, hq1⟩, c_Ma_patternOf (c_Ma_patternOf_0 hs1 hq1 ⟨by omega, by omega, fun M3 e3 => ?_⟩)⟩⟩
      rw [m2.2.2.2 r k hr.1 hr.2 k0 (by omega)] at e3
      obtain ⟨y1, -⟩ := stG_up (t := t) (i := 0) (fp := fp) (k := 43) (x := k) (v := D 78 (36 * m + 3 * r + k)) hs1 hT2.1 hT2.2.2 g2.1 (by omega)
      rw [← e3] at y1
      have f : ∀ j, j ≠ 43 → M3 j = M2 j := fun j hj => by rw [e3, xrd hj]
      refine ih (k + 1) M3 (by omega) (by omega) (stG_trans g2 y1) ⟨by rw [f 40 (by decide)]; exact hk2.1, fun x q hx => by rw [f 39 (by decide)]; exact crw_gr y1.2.2.2.2 (hk2.2 x q hx)⟩ (by rw [f 29 (by decide)]; exact e13) (by rw [f 30 (by decide)]; exact e30) (by rw [f 34 (by decide)]; exact e34) (fun x x0 x1 => ?_) (by rw [f t (by have := hT.2.2; omega)]; exact et)
      rw [e3]
      by_cases z : x = k
      · rw [z, xrs]; rfl
      · rw [xri (by omega)]; exact e43 x x0 (by omega)
  exact key (D 75 m).toNat 0 M1 (by omega) (by omega) hg hk h13 h30 h34 (fun x x0 x1 => by omega) rfl
end CBH
