/-! ===== the class: agrees() always says yes ===== -/
/-- the class's values have the reference's types -/
def vTy (M D : xM) : Prop := M 8 1 = D 59 10 ∧ ∀ v, 0 ≤ v → v < D 59 10 → M 10 v = D 64 v
/-- a match of the reference is in order -/
def mOK (D : xM) (m : Int) : Prop := wfM D m ∧ wfG D m ∧ wfU D m ∧ wfQ D m ∧ ∀ r, 0 ≤ r → r < 12 → (D 79 (12 * m + r) = -1 ∨ (0 ≤ D 79 (12 * m + r) ∧ D 79 (12 * m + r) < 16))
section CAG
variable {D : xM} {e : yE} {m : Int} {mq : Nat}
theorem s_oneType {d : Nat} {M : xM} {Q : Int → xM → Prop} (hs : CSh e) (hM : wfM D m) (ht : wfT D) (hq : XSh3 mq e) (hm : mCl M mq D m) (h1 : (∀ k, 0 ≤ k → k < D 75 m → D 76 (3 * m + k) = D 76 (3 * m + 0)) → Q 1 M) (h0 : Q 0 M) : C_Ma_isOfOneType e (d + 1) mq M Q := by
  have h75 := hM.2.1
  have h8 := ht.1.2
  obtain ⟨m0, m2, m1, -⟩ := hm
  have hr : ∀ k, 0 ≤ k → k < D 75 m → rg (M (mq + 1) k) := fun k k0 k1 => by
    rw [m1 k k0 k1]; have := hM.2.2.2.1 k k0 k1; exact ⟨by omega, by omega⟩
  have key : ∀ (n x : Nat), (x : Int) + n = D 75 m → 1 ≤ x → (∀ k, 0 ≤ k → k < (x : Int) → D 76 (3 * m + k) = D 76 (3 * m + 0)) → C_Ma_isOfOneType_2 e d mq x M Q := by
    intro n
    induction n with
    | zero => intro x hx x1 g; exact c_Ma_isOfOneType_2 hs hq ⟨⟨⟨by omega, by omega⟩, by rw [m0]; exact ⟨by omega, by omega⟩⟩, fun _ => h1 (fun k k0 k1 => g k k0 (by omega)), fun z => absurd (by rw [m0]; omega) z⟩
    | succ n ih =>
      intro x hx x1 g
      refine c_Ma_isOfOneType_2 hs hq ⟨⟨⟨by omega, by omega⟩, by rw [m0]; exact ⟨by omega, by omega⟩⟩, fun z => absurd z (by rw [m0]; omega), fun _ => ⟨by omega, ⟨hr x (by omega) (by omega), hr 0 (by omega) (by omega)⟩, fun z => ih (x + 1) (by omega) (by omega) (fun k k0 k1 => ?_), fun _ => h0⟩⟩
      by_cases w : k = x
      · rw [m1 x (by omega) (by omega), m1 0 (by omega) (by omega)] at z; rw [w]; exact z
      · exact g k k0 (by omega)
  refine c_Ma_isOfOneType (c_Ma_isOfOneType_0 hs hq ?_)
  refine key ((D 75 m).toNat - 1) 1 (by omega) (Nat.le_refl _) (fun k k0 k1 => ?_)
  rw [show k = 0 by omega]
/-- the root's values -/
theorem vaO_ok {va : Int → Int} (hM : wfM D m) (hva : vaO D m va) : valOK D (D 75 m) (E0 D m) va := by
  have h75 := hM.2.1
  intro q q0 q1
  obtain ⟨h1, h2⟩ := hva q q0 q1
  refine ⟨h1, ?_⟩
  rw [h2]; unfold E0; rw [if_pos ⟨rfl, q0, by omega⟩]
/-- a walk through the tree takes the row that the patterns choose -/
theorem wk_root {va : Int → Int} {evs : List aV} (hg : wOK D) (hO : mOK D m) (hf : fin_ D m 120 [root D m] = some evs) (hva : vaO D m va) : oEq (wk D m 120 (root D m) va).2.2 (out D m (D 75 m) (fun k => k) va (rtL D m (D 77 m).toNat)) := by
  obtain ⟨gp, gt, gv, gb, ge⟩ := hg
  obtain ⟨o1, o2, o3, o4, -⟩ := hO
  exact wk_out ⟨gp, gt, gv, gb, ge⟩ 120 120 _ _ _ _ _ va [] (Nat.le_refl _) (by show fin_ D m 120 [root D m] ≠ none; rw [hf]; intro z; cases z) (root_wf gp o1) (rI_root gp gb ge o1 o2 o3 o4) (vaO_ok o1 hva)
theorem out_rg {va : Int → Int} (hg : wOK D) (hO : mOK D m) : -1 ≤ (out D m (D 75 m) (fun k => k) va (rtL D m (D 77 m).toNat)).1 ∧ (out D m (D 75 m) (fun k => k) va (rtL D m (D 77 m).toNat)).1 < 12 := by
  have h77 := hO.1.2.2.1
  have key : ∀ L : List aR, (∀ r ∈ L, 0 ≤ r.1 ∧ r.1 < 12) → -1 ≤ (out D m (D 75 m) (fun k => k) va L).1 ∧ (out D m (D 75 m) (fun k => k) va L).1 < 12 := by
    intro L
    induction L with
    | nil => intro _; show (-1 : Int) ≤ -1 ∧ (-1 : Int) < 12; decide
    | cons r rs ih =>
      intro h
      rw [out_cs]
      have := h r (by simp)
      split
      · exact ⟨by omega, this.2⟩
      · exact ih (fun q hq => h q (by simp [hq]))
  refine key _ (fun r hr => ?_)
  obtain ⟨i, hi, rfl⟩ := rtL_mem _ hr
  show 0 ≤ (i : Int) ∧ (i : Int) < 12
  omega
/-- what agrees() may change -/
def frA (M M' : xM) : Prop := ∀ j, j ≠ 58 → j ≠ 48 → j ≠ 49 → j ≠ 50 → j ≠ 52 → M' j = M j
theorem s_agrees {d : Nat} {M : xM} {nd : Int → aN} {pi : Int → Int → Int} {evs : List aV} {Q : Int → xM → Prop} (hs : CSh e) (hg : wOK D) (hO : mOK D m) (hd : 110 ≤ d) (hq : XSh3 mq e) (h99 : 99 < mq) (hone : ∀ k, 0 ≤ k → k < D 75 m → D 76 (3 * m + k) = D 76 (3 * m + 0)) (hT : stT D (mq + 5) m M nd pi evs) (hC : pCl M D) (hN : pCn M D) (hV : vCl M D) (hY : vTy M D) (hm : mCl M mq D m) (hgC : gCl M mq D m)
    (h : ∀ M', frA M M' → Q 1 M') : C_Mf_agrees e d mq M Q := by
  have hg' := hg
  obtain ⟨gp, gt, gv, gb, ge⟩ := hg'
  have hO' := hO
  obtain ⟨o1, o2, o3, o4, o5⟩ := hO'
  obtain ⟨d, rfl⟩ : ∃ d', d = d' + 1 := ⟨d - 1, by omega⟩
  have h10 := gv.1
  have h75 := o1.2.1
  have h8 := gt.1.2
  have key : ∀ (n : Nat) (x : Nat) (M1 : xM), (x : Int) + n = D 59 10 → frA M M1 → C_Mf_agrees_17 e d mq x M1 Q := by
    intro n
    induction n with
    | zero =>
      intro x M1 hx g
      have e8 : M1 8 1 = D 59 10 := by rw [g 8 (by decide) (by decide) (by decide) (by decide) (by decide)]; exact hY.1
      exact c_Mf_agrees_17 hs hq ⟨⟨⟨by omega, by omega⟩, by rw [e8]; exact ⟨by omega, by omega⟩⟩, fun _ => h M1 g, fun z => absurd (by rw [e8]; omega) z⟩
    | succ n ih =>
      intro x M1 hx g
      have gl : ∀ j, j < 48 → M1 j = M j := fun j hj => g j (by omega) (by omega) (by omega) (by omega) (by omega)
      have gh : ∀ j, 99 < j → M1 j = M j := fun j hj => g j (by omega) (by omega) (by omega) (by omega) (by omega)
      have e8 : M1 8 1 = D 59 10 := by rw [gl 8 (by decide)]; exact hY.1
      have e10 : M1 10 x = D 64 x := by rw [gl 10 (by decide)]; exact hY.2 x (by omega) (by omega)
      have et : M1 (mq + 1) 0 = D 76 (3 * m + 0) := by rw [gh (mq + 1) (by omega)]; exact hm.2.2.1 0 (by omega) (by omega)
      have rt := o1.2.2.2.1 0 (by omega) (by omega)
      have rv := (gv.2 x (by omega) (by omega)).2.1
      refine c_Mf_agrees_17 hs hq ⟨⟨⟨by omega, by omega⟩, by rw [e8]; exact ⟨by omega, by omega⟩⟩, fun z => absurd z (by rw [e8]; omega), fun _ => ⟨by omega, ?_⟩⟩
      rw [e10, et]
      refine ⟨⟨⟨by omega, by omega⟩, ⟨by omega, by omega⟩⟩, fun _ => ih (x + 1) M1 (by omega) g, fun z => ?_⟩
      have hty : D 64 x = D 76 (3 * m + 0) := Classical.not_not.mp z
      have hva : vaO D m (fun _ => (x : Int)) := fun k k0 k1 => ⟨by show 0 ≤ (x : Int) ∧ (x : Int) < D 59 10; omega, by show D 64 x = _; rw [hty, hone k k0 k1]⟩
      obtain ⟨d', rfl⟩ : ∃ d', d = d' + 4 := ⟨d - 4, by omega⟩
      refine c_Mf_give (d := d' + 3) (c_Mf_give_0 hs (fun M2 e2 M3 e3 M4 e4 => ?_))
      have f4 : ∀ j, j ≠ 58 → M4 j = M1 j := fun j hj => by rw [e4, xrd hj, e3, xrd hj, e2, xrd hj]
      have g58 : ∀ q, 0 ≤ q → q < D 75 m → M4 58 q = x := by
        intro q q0 q1
        by_cases w2 : q = 2
        · rw [e4, w2, xrs]
        · rw [e4, xri w2]
          by_cases w1 : q = 1
          · rw [e3, w1, xrs]
          · rw [e3, xri w1, e2, show q = 0 by omega, xrs]
      have fl : ∀ j, j < 48 → M4 j = M j := fun j hj => by rw [f4 j (by omega), gl j hj]
      have fh : ∀ j, 99 < j → M4 j = M j := fun j hj => by rw [f4 j (by omega), gh j hj]
      have hT4 := stT_cg (M' := M4) (fun j y1 y2 => fh j (by omega)) hT
      have hV4 := vCl_cg (M' := M4) (fl 11 (by decide)) (fl 13 (by decide)) (fl 14 (by decide)) hV
      have hG4 := gCl_cg (M' := M4) (fh _ (by omega)) (fh _ (by omega)) hgC
      refine s_follow (d := d') (va := fun _ => (x : Int)) hg o1 hs (c8_48 hs) (Or.inr rfl) hq h99 (caa_58 hs) rfl rfl hT4 hV4 hG4 (by rw [fh mq h99]; exact hm.1) (rI_root gp gb ge o1 o2 o3 o4) g58 (vaO_ok o1 hva) (fun M5 k1 _ _ _ _ => ?_)
      have f5 : ∀ j, j ≠ 58 → j ≠ 48 → j ≠ 49 → j ≠ 50 → M5 j = M1 j := fun j y1 y2 y3 y4 => by rw [k1 j y2 y3 y4, f4 j y1]
      have fl5 : ∀ j, j < 48 → M5 j = M j := fun j hj => by rw [f5 j (by omega) (by omega) (by omega) (by omega), gl j hj]
      have fh5 : ∀ j, 99 < j → M5 j = M j := fun j hj => by rw [f5 j (by omega) (by omega) (by omega) (by omega), gh j hj]
      have hw := wk_root hg hO hT.1 hva
      have hor := out_rg (va := fun _ => (x : Int)) hg hO
      refine s_rowFor (va := fun _ => (x : Int)) hs gp gt gv gb o1 o3 o2 (by omega) hq h99 (caa_58 hs) rfl (by decide) hva (fun q q0 q1 => by rw [k1 58 (by decide) (by decide) (by decide)]; exact g58 q q0 q1) (pCl_cg (fl5 19 (by decide)) (fl5 21 (by decide)) (fl5 24 (by decide)) hC) (by unfold pCn; rw [fl5 23 (by decide)]; exact hN) (vCl_cg (fl5 11 (by decide)) (fl5 13 (by decide)) (fl5 14 (by decide)) hV) (by unfold mCl; rw [fh5 mq h99, fh5 (mq + 1) (by omega), fh5 (mq + 2) (by omega)]; exact hm) (gCl_cg (fh5 _ (by omega)) (fh5 _ (by omega)) hgC) o5 (fun M6 k6 => ?_)
      rw [hw.1]
      refine ⟨⟨⟨by omega, by omega⟩, ⟨by omega, by omega⟩⟩, fun _ => ih (x + 1) M6 (by omega) (fun j y1 y2 y3 y4 y5 => ?_), fun z => absurd rfl z⟩
      rw [k6 j y5, f5 j y1 y2 y3 y4]; exact g j y1 y2 y3 y4 y5
  have e8 := hY.1
  refine c_Mf_agrees (c_Mf_agrees_0 hs hq ?_)
  rw [e8]
  refine ⟨⟨by omega, by omega⟩, ?_⟩
  by_cases z : (0 : Int) < D 59 10 - 30
  · rw [if_pos z]
    have := key 30 (D 59 10 - 30).toNat M (by omega) (fun _ _ _ _ _ _ => rfl)
    rw [show (((D 59 10 - 30).toNat : Nat) : Int) = D 59 10 - 30 by omega] at this
    exact this
  · rw [if_neg z]
    exact key (D 59 10).toNat 0 M (by omega) (fun _ _ _ _ _ _ => rfl)
end CAG
