/-! ===== the class: the root's rows ===== -/
/-- the class's match is the reference's -/
def mCl (M : xM) (mq : Nat) (D : xM) (m : Int) : Prop := M mq 0 = D 75 m ∧ M mq 2 = D 77 m ∧ (∀ k, 0 ≤ k → k < D 75 m → M (mq + 1) k = D 76 (3 * m + k)) ∧ ∀ r k, 0 ≤ r → r < D 77 m → 0 ≤ k → k < D 75 m → M (mq + 2) (r * 3 + k) = D 78 (36 * m + 3 * r + k)
/-- a row's patterns -/
def rpt (D : xM) (m r : Int) : Int → Int := fun k => D 78 (36 * m + 3 * r + k)
/-- a row's patterns have no name twice -/
def rno (D : xM) (m r : Int) : Prop := ∀ i j a, 0 ≤ i → i < D 75 m → 0 ≤ j → j < D 75 m → 0 ≤ a → a < 16 → i ≠ j → tF D (rpt D m r i) a = true → ¬ tF D (rpt D m r j) a = true
section CBG
variable {D : xM} {d : Nat} {t mq : Nat} {m r s : Int}
theorem rtN_no {a : Int} : ∀ n : Nat, (∀ i : Int, 0 ≤ i → i < n → ¬ tF D (rpt D m r i) a = true) → rtN D m r n a = -1 := by
  intro n
  induction n with
  | zero => intro _; rfl
  | succ n ih =>
    intro h
    show (if tF D (rpt D m r n) a = true then _ else rtN D m r n a) = _
    rw [if_neg (h n (by omega) (by omega))]
    exact ih (fun i i0 i1 => h i i0 (by omega))
theorem rtN_at {a i : Int} : ∀ n : Nat, 0 ≤ i → i < n → tF D (rpt D m r i) a = true → (∀ j : Int, 0 ≤ j → j < n → j ≠ i → ¬ tF D (rpt D m r j) a = true) → rtN D m r n a = i := by
  intro n
  induction n with
  | zero => intro h1 h2; omega
  | succ n ih =>
    intro h1 h2 h3 h4
    show (if tF D (rpt D m r n) a = true then (n : Int) else rtN D m r n a) = _
    by_cases z : (n : Int) = i
    · rw [if_pos (by rw [z]; exact h3)]; exact z
    · rw [if_neg (h4 n (by omega) (by omega) z)]
      exact ih h1 (by omega) h3 (fun j j0 j1 j2 => h4 j j0 (by omega) j2)
theorem rtN_nmP (hno : rno D m r) {a : Int} {n : Nat} (hn : (n : Int) = D 75 m) (a0 : 0 ≤ a) (a1 : a < 16) : rtN D m r n a = nmP D 0 (rpt D m r) (fun _ => -1) n 0 a := by
  by_cases z : ∃ i : Int, 0 ≤ i ∧ i < n ∧ tF D (rpt D m r i) a = true
  · obtain ⟨i, i0, i1, i2⟩ := z
    have hu : ∀ j : Int, 0 ≤ j → j < n → j ≠ i → ¬ tF D (rpt D m r j) a = true := fun j j0 j1 j2 => hno i j a i0 (by omega) j0 (by omega) a0 a1 (fun y => j2 y.symm) i2
    rw [rtN_at n i0 i1 i2 hu, nmP_at n 0 i0 (by omega) i2 (fun j j0 j1 j2 => hu j j0 (by omega) j2)]
    omega
  · have hu : ∀ j : Int, 0 ≤ j → j < n → ¬ tF D (rpt D m r j) a = true := fun j j0 j1 j2 => z ⟨j, j0, j1, j2⟩
    rw [rtN_no n hu, nmP_no n 0 (fun j j0 j1 => hu j j0 (by omega))]
theorem swt_le (hw : wfP D) {f : Int → Int} {n : Int} (hf : ∀ i, 0 ≤ i → i < n → isP D (f i)) : ∀ (k : Nat) (j : Int), 0 ≤ j → j + k ≤ n → swt D f k j ≤ 81 * k := by
  intro k
  induction k with
  | zero => intro j _ _; exact Int.le_refl _
  | succ k ih =>
    intro j j0 j1
    have h1 := ih (j + 1) (by omega) (by omega)
    have h2 := (hw.2 _ (hf j j0 (by omega))).2.1
    show (2 * D 72 (f j) + 1) + swt D f k (j + 1) ≤ _
    omega
/-- a state that the root's row has made -/
theorem crw_root {M : xM} (hw : wfP D) (hwb : wfB D) (hM : wfM D m) (hr : 0 ≤ r ∧ r < D 77 m) (hno : rno D m r) (h1 : 0 ≤ s ∧ s < M 30 0) (h2 : vS M 1 s = r) (h3 : chL M (pEr D 0 (rpt D m r) (D 75 m).toNat 0) (vS M 2 s)) (h4 : chL M (nEr D 0 (rpt D m r) (D 75 m).toNat 0) (vS M 3 s)) : crw D M (fun q => q) (D 75 m) (fun k => k) s (rtR D m r) ∧ (nEr D 0 (rpt D m r) (D 75 m).toNat 0).length ≤ 16 := by
  have hp : ∀ i, 0 ≤ i → i < D 75 m → isP D (rpt D m r i) := fun i i0 i1 => (hM.2.2.2.2 r i hr.1 hr.2 i0 i1).1
  have h75 := hM.2.1
  have eo : opn (fun q => q) (fun k => k) (rtR D m r).2.1 (D 75 m).toNat 0 = pEr D 0 (rpt D m r) (D 75 m).toNat 0 := by
    refine opn_pEr _ _ _ (fun i hi => ⟨?_, by show (0 : Int) + i = 0 + (0 + i); omega⟩)
    show (if 0 ≤ (0 : Int) + i ∧ (0 : Int) + i < D 75 m then lF D (rpt D m r (0 + i)) else -1) = _
    rw [if_pos (by omega)]
  have hn0 : nmK (fun q => q) (fun _ => (-1 : Int)) [] := ⟨fun x hx => by simp at hx, fun a _ _ ha => absurd ha (by show ¬ (0 : Int) ≤ -1; omega), List.nodup_nil⟩
  have hk := nmK_parts (D := D) (np := 0) hw hwb (π := fun q => q) (f := rpt D m r) (x := 0) (n := D 75 m) (by omega) hn0 hp (fun i _ _ => rfl) (fun i a i0 i1 a0 a1 ht => ⟨by omega, fun i' j0 j1 j2 => hno i i' a i0 i1 j0 j1 a0 a1 (fun y => j2 y.symm) ht⟩) (D 75 m).toNat 0 (by omega) (by omega)
  rw [List.append_nil] at hk
  have hk2 : nmK (fun q => q) (rtR D m r).2.2 (nEr D 0 (rpt D m r) (D 75 m).toNat 0) := nmK_cg hk (fun a a0 a1 => rtN_nmP hno (by omega) a0 a1)
  have hwt := pe_wt (D := D) hw (x := 0) hp (D 75 m).toNat 0 (by omega) (by omega)
  have hsw := swt_le hw hp (D 75 m).toNat 0 (by omega) (by omega)
  exact ⟨⟨h1, h2, by rw [eo]; exact h3, _, h4, hk2, by rw [eo]; omega⟩, nmK_len hk2⟩
theorem mCl_G {e e1 : yE} {M M1 : xM} {cs cl cs1 cl1 : Nat} {i fp : Int} (hq : XSh3 mq e) (hmt : mq + 5 = t) (ht : hTr e M t) (h99 : 99 < mq) (hg : stG t i fp e M cs cl e1 M1 cs1 cl1) : M1 mq = M mq ∧ M1 (mq + 1) = M (mq + 1) ∧ M1 (mq + 2) = M (mq + 2) ∧ M1 (mq + 3) = M (mq + 3) := by
  have hlt := hq.2.1
  have f := hg.2.2.2.1.1
  refine ⟨f mq (by omega) (by omega) (by omega) (by omega) (by omega) (by omega) (by omega) (by omega) (by omega) (by omega) (by omega) (by omega) (by omega) (nC_o (t := 13) hq.2.2.1), ?_, ?_, ?_⟩
  · exact f (mq + 1) (by omega) (by omega) (by omega) (by omega) (by omega) (by omega) (by omega) (by omega) (by omega) (by omega) (by omega) (by omega) (by omega) (nC_a (a3_1 hq) (by decide))
  · exact f (mq + 2) (by omega) (by omega) (by omega) (by omega) (by omega) (by omega) (by omega) (by omega) (by omega) (by omega) (by omega) (by omega) (by omega) (nC_a (a3_2 hq) (by decide))
  · exact f (mq + 3) (by omega) (by omega) (by omega) (by omega) (by omega) (by omega) (by omega) (by omega) (by omega) (by omega) (by omega) (by omega) (by omega) (nC_a (a3_3 hq) (by decide))
theorem mCl_cg {M M' : xM} (h0 : M' mq = M mq) (h1 : M' (mq + 1) = M (mq + 1)) (h2 : M' (mq + 2) = M (mq + 2)) (h : mCl M mq D m) : mCl M' mq D m := by
  unfold mCl; rw [h0, h1, h2]; exact h
end CBG
