/-! ===== the class: begin ===== -/
theorem hpC_sz {e : yE} {M M' : xM} {cs cl : Nat} (hp : hpC e M cs cl) (h30 : ∀ x, x ≠ 0 → M' 30 x = M 30 x) (h34 : ∀ x, x ≠ 0 → M' 34 x = M 34 x) (z30 : M' 30 0 = 0) (z34 : M' 34 0 = 0) : hpC e M' cs cl := by
  obtain ⟨s1, s2, s3, l1, l2, l3, ⟨S1, S2, S3, S4, S5, S6⟩, ⟨L1, L2, L3, L4, L5, L6⟩, r⟩ := hp
  refine ⟨s1, s2, s3, l1, l2, l3, ⟨S1, ?_, S3, S4, by rw [z30]; omega, S6⟩, ⟨L1, ?_, L3, L4, by rw [z34]; omega, L6⟩, r⟩
  · rw [h30 1 (by decide), h30 2 (by decide), h30 3 (by decide)]; exact S2
  · rw [h34 1 (by decide), h34 2 (by decide), h34 3 (by decide)]; exact L2
section CBI
variable {D : xM} {d : Nat} {t mq : Nat} {m fp : Int}
theorem s_begin95 {e : yE} {cs cl : Nat} {M : xM} {Q : yE → xM → Prop} (hw : wfP D) (hwb : wfB D) (hM : wfM D m) (hno : ∀ r, 0 ≤ r → r < D 77 m → rno D m r) (hs : CSh e) (hP : hpP e M cs cl) (hC : pCl M D) (hT : hTr e M t) (hq : XSh3 mq e) (hmt : mq + 5 = t) (h99 : 99 < mq) (hmq : M 29 16 = (mq : Int)) (hm : mCl M mq D m) (h40 : M 40 0 = 0) (h30 : M 30 0 = 0) (h34 : M 34 0 = 0) (hW : wtg M [])
    (h : ∀ e' M' M'' cs' cl', stG t 0 fp e M cs cl e' M' cs' cl' → kpt D M' (fun q => q) (D 75 m) (fun k => k) 0 (rtL D m (D 77 m).toNat) → M' 30 0 = 2 * D 77 m → M' 34 0 ≤ 19 * D 77 m → M' t = M t → (∀ j, j ≠ 29 → j ≠ 38 → M'' j = M' j) → (∀ y, y ≠ 5 → M'' 29 y = M' 29 y) → wtg M'' [0] → Q e' M'') :
    C_Bu_begin_95 e (d + 5) mq 0 0 M Q := by
  have h75 := hM.2.1
  have h77 := hM.2.2.1
  have key : ∀ (j : Nat) (r : Int) (e1 : yE) (M1 : xM) (cs1 cl1 : Nat), 0 ≤ r → r + (j : Int) = D 77 m → stG t 0 fp e M cs cl e1 M1 cs1 cl1 → kpt D M1 (fun q => q) (D 75 m) (fun k => k) 0 (rtL D m r.toNat) → M1 30 0 = 2 * r → M1 34 0 ≤ 19 * r → M1 t = M t → C_Bu_begin_95 e1 (d + 5) mq 0 r M1 Q := by
    intro j
    induction j with
    | zero =>
      intro r e1 M1 cs1 cl1 r0 r1 g1 hk e30 e34 et
      have hs1 := hs.le g1.2.1
      have hq1 : XSh3 mq e1 := hq.le g1.2.1
      obtain ⟨c0, c1, c2, c3⟩ := mCl_G hq hmt hT h99 g1
      have m1 := mCl_cg c0 c1 c2 hm
      obtain ⟨hT1, f1⟩ := stG_keep hs hT g1
      have hmq1 : M1 29 16 = (mq : Int) := by rw [g1.2.2.2.1.2.1 16 (by decide) (by decide)]; exact hmq
      have hr : r = D 77 m := by omega
      refine c_Bu_begin_95 hs1 hq1 ⟨mq, ⟨hmq1, hq1⟩, by rw [m1.2.1]; exact ⟨⟨by omega, by omega⟩, ⟨by omega, by omega⟩⟩, fun _ => ?_, fun z => absurd (by rw [m1.2.1]; omega) z⟩
      have hW1 : wtg M1 [] := wtg_cg (g1.2.2.2.1.2.1 5 (by decide) (by decide)) (f1 38 (by decide) (by decide) (by decide) (by decide) (by decide) (by decide) (by decide) (by decide) (nC_a (caa_38 hs) (by decide))) hW
      rw [hr] at hk e30 e34
      exact s_putOff (d := d + 4) (n := 1) (ws := []) hs1 hW1 (by simp) (fun M2 p1 p2 p3 => h e1 M1 M2 cs1 cl1 g1 hk e30 e34 et p1 p2 p3)
    | succ j ih =>
      intro r e1 M1 cs1 cl1 r0 r1 g1 hk e30 e34 et
      have hs1 := hs.le g1.2.1
      have hq1 : XSh3 mq e1 := hq.le g1.2.1
      obtain ⟨c0, c1, c2, c3⟩ := mCl_G hq hmt hT h99 g1
      have m1 := mCl_cg c0 c1 c2 hm
      obtain ⟨hT1, f1⟩ := stG_keep hs hT g1
      have hmq1 : M1 29 16 = (mq : Int) := by rw [g1.2.2.2.1.2.1 16 (by decide) (by decide)]; exact hmq
      refine c_Bu_begin_95 hs1 hq1 ⟨mq, ⟨hmq1, hq1⟩, by rw [m1.2.1]; exact ⟨⟨by omega, by omega⟩, ⟨by omega, by omega⟩⟩, fun z => absurd z (by rw [m1.2.1]; omega), fun _ => ⟨mq, ⟨hmq1, hq1⟩, fun M4 e4 => ?_⟩⟩
      rw [m1.1] at e4
      obtain ⟨y1, -⟩ := stG_up (t := t) (i := 0) (fp := fp) (k := 29) (x := 13) (v := D 75 m) hs1 hT1.1 hT1.2.2 g1.1 (by omega)
      rw [← e4] at y1
      have f : ∀ j, j ≠ 29 → M4 j = M1 j := fun j hj => by rw [e4, xrd hj]
      refine s_begin120 (d := d) (fp := fp) hw hwb hM ⟨r0, by omega⟩ (hno r r0 (by omega)) hs hC hT hq hmt h99 hmq hm (stG_trans g1 y1) ⟨by rw [f 40 (by decide)]; exact hk.1, fun x q hx => by rw [f 39 (by decide)]; exact crw_gr y1.2.2.2.2 (hk.2 x q hx)⟩ (by rw [e4, xrs]) (by rw [f 30 (by decide)]; exact e30) (by rw [f 34 (by decide)]; exact e34) ?_
      intro e' M' cs' cl' q1 q2 q3 q4 q5 q6
      exact ih (r + 1) e' M' cs' cl' (by omega) (by omega) q1 q3 q4 q5 (by rw [q6, f t (by have := hT.2.2; omega)]; exact et)
  exact key (D 77 m).toNat 0 e M cs cl (by omega) (by omega) (stG_refl hP) ⟨by rw [h40]; rfl, fun x q hx => by simp [rtL] at hx⟩ (by omega) (by omega) rfl
end CBI
