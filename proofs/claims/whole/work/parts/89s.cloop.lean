/-! ===== the class: the loop of stands(), its frame ===== -/
/-- what a stretch of stands() may change -/
def fLp (t : Nat) (e : yE) (M M' : xM) : Prop := (∀ j, j < e.1 → j ≠ 29 → j ≠ 30 → j ≠ 34 → ¬ (38 ≤ j ∧ j ≤ 44) → ¬ (t ≤ j ∧ j ≤ t + 12) → ¬ isC e j → M' j = M j) ∧ ∀ x, x ≠ 5 → x ≠ 9 → x ≠ 11 → x ≠ 13 → x ≠ 15 → M' 29 x = M 29 x
def lpS (t : Nat) (e : yE) (M : xM) (cs cl : Nat) (e' : yE) (M' : xM) (cs' cl' : Nat) : Prop := hpP e' M' cs' cl' ∧ yLe e e' ∧ rmC e e' cs cl cs' cl' ∧ fLp t e M M'
section CLP
variable {D : xM} {t : Nat} {e e1 e2 : yE} {M M1 M2 : xM} {a b a1 b1 a2 b2 : Nat}
theorem fLp_trans (hl : yLe e e1) (h : fLp t e M M1) (h2 : fLp t e1 M1 M2) : fLp t e M M2 :=
  ⟨fun j x1 x2 x3 x4 x5 x6 x7 => (h2.1 j (Nat.lt_of_lt_of_le x1 hl.1) x2 x3 x4 x5 x6 (nC_le hl x1 x7)).trans (h.1 j x1 x2 x3 x4 x5 x6 x7), fun x x1 x2 x3 x4 x5 => (h2.2 x x1 x2 x3 x4 x5).trans (h.2 x x1 x2 x3 x4 x5)⟩
theorem lpS_refl (h : hpP e M a b) : lpS t e M a b e M a b := ⟨h, yLe.rf, rmC_refl, fun _ _ _ _ _ _ _ _ => rfl, fun _ _ _ _ _ _ => rfl⟩
theorem lpS_trans (h : lpS t e M a b e1 M1 a1 b1) (h2 : lpS t e1 M1 a1 b1 e2 M2 a2 b2) : lpS t e M a b e2 M2 a2 b2 :=
  ⟨h2.1, h.2.1.tr h2.2.1, rmC_trans h.2.2.1 h2.2.2.1, fLp_trans h.2.1 h.2.2.2 h2.2.2.2⟩
theorem lpS_std (h : std e M a b e1 M1 a1 b1) : lpS t e M a b e1 M1 a1 b1 :=
  ⟨h.1, h.2.1, h.2.2.1, fun j x1 x2 x3 x4 x5 _ x7 => h.2.2.2.1.1 j x1 x2 x3 x4 (fun z => x5 (by omega)) (fun z => x5 (by omega)) (fun z => x5 (by omega)) x7, fun x _ x2 _ x4 x5 => h.2.2.2.1.2 x x2 x4 x5⟩
/-- what is changed lies in the builder's own and in the tree -/
theorem lpS_of (hP : hpP e M a b) (hP1 : hpP e M1 a b) (hf : ∀ j, j ≠ 29 → ¬ (38 ≤ j ∧ j ≤ 44) → ¬ (t ≤ j ∧ j ≤ t + 12) → M1 j = M j) (hx : ∀ x, x ≠ 5 → x ≠ 9 → x ≠ 11 → x ≠ 13 → x ≠ 15 → M1 29 x = M 29 x) : lpS t e M a b e M1 a b :=
  ⟨hP1, yLe.rf, rmC_refl, fun j _ x2 _ _ x5 x6 _ => hf j x2 x5 x6, hx⟩
theorem fLp_all (hs : CSh e) (h99 : 99 < t) (h : fLp t e M M1) : (∀ j, j < 59 → j ≠ 29 → j ≠ 30 → j ≠ 34 → ¬ (38 ≤ j ∧ j ≤ 44) → ¬ isC e j → M1 j = M j) :=
  fun j x1 x2 x3 x4 x5 x6 => h.1 j (Nat.lt_of_lt_of_le x1 hs.1) x2 x3 x4 x5 (by omega) x6
theorem lpS_pt (hs : CSh e) (h99 : 99 < t) (h : fLp t e M M1) (hC : pCl M D) (hY : tCl M D) : pCl M1 D ∧ tCl M1 D := by
  have f := fLp_all hs h99 h
  refine ⟨pCl_cg (f 19 (by decide) (by decide) (by decide) (by decide) (by decide) (nC_19 hs)) (f 21 (by decide) (by decide) (by decide) (by decide) (by decide) (nC_21 hs)) (f 24 (by decide) (by decide) (by decide) (by decide) (by decide) (nC_24 hs)) hC, tCl_cg (f 2 (by decide) (by decide) (by decide) (by decide) (by decide) ?_) (f 3 (by decide) (by decide) (by decide) (by decide) (by decide) ?_) (f 4 (by decide) (by decide) (by decide) (by decide) (by decide) ?_) (f 5 (by decide) (by decide) (by decide) (by decide) (by decide) ?_) hY⟩
  · exact nC_o (t := 17) (hs.2 (2, 17, 0) (List.mem_of_getElem? (i := 1) rfl) (by decide))
  · exact nC_a (caa_3 hs) (by decide)
  · exact nC_a (caa_4 hs) (by decide)
  · exact nC_a (caa_5 hs) (by decide)
theorem lpS_tr (h : lpS t e M a b e1 M1 a1 b1) (hT : hTr e M t) : hTr e1 M1 t :=
  ⟨hT.1.le h.2.1, by rw [h.2.2.2.2 17 (by decide) (by decide) (by decide) (by decide) (by decide)]; exact hT.2.1, hT.2.2⟩
/-- a match's own cells -/
theorem lpS_mq {mq : Nat} (h : lpS t e M a b e1 M1 a1 b1) (h99 : 99 < mq) (hmt : mq + 5 = t) (hq : XSh3 mq e) : M1 mq = M mq ∧ M1 (mq + 1) = M (mq + 1) ∧ M1 (mq + 2) = M (mq + 2) ∧ M1 (mq + 3) = M (mq + 3) := by
  have l := ob6_lt hq.2.2.2.2.2.2.2
  refine ⟨h.2.2.2.1 mq (by omega) (by omega) (by omega) (by omega) (by omega) (by omega) ?_, h.2.2.2.1 (mq + 1) (by omega) (by omega) (by omega) (by omega) (by omega) (by omega) ?_, h.2.2.2.1 (mq + 2) (by omega) (by omega) (by omega) (by omega) (by omega) (by omega) ?_, h.2.2.2.1 (mq + 3) (by omega) (by omega) (by omega) (by omega) (by omega) (by omega) ?_⟩
  · exact nC_o hq.2.2.1
  · exact nC_a (a3_1 hq) (by decide)
  · exact nC_a (a3_2 hq) (by decide)
  · exact nC_a (a3_3 hq) (by decide)
end CLP
section CLQ
variable {D : xM} {w at_ : Int} {col : Int → Int}
theorem nA_pre : ∀ (n : Nat) (dn todo rows' : List aR), nA D col at_ n dn todo = some rows' → ∃ l, rows' = dn ++ l := by
  intro n
  induction n with
  | zero => intro dn todo rows' h; cases h
  | succ n ih =>
    intro dn todo rows' h
    cases todo with
    | nil => exact ⟨[], by have := Option.some.inj h; rw [← this, List.append_nil]⟩
    | cons r rs =>
      unfold nA at h
      split at h
      · split at h
        · cases h
        · exact ih dn _ rows' h
      · obtain ⟨l, hl⟩ := ih _ _ _ h
        exact ⟨r :: l, by rw [hl]; simp⟩
/-- the first row has a pattern in the column that is tested -/
theorem nA_hd {r : aR} {rs rows' : List aR} {n : Nat} (h : nA D col at_ (n + 1) [] (r :: rs) = some rows') (hn : ¬ (0 ≤ r.2.1 at_ ∧ D 68 (r.2.1 at_) = 4)) : ∃ l, rows' = r :: l := by
  unfold nA at h
  rw [if_neg hn] at h
  obtain ⟨l, hl⟩ := nA_pre _ _ _ _ h
  exact ⟨l, by rw [hl]; rfl⟩
theorem brs_ne {ty : Int} {r : aR} {l : List aR} (h : 0 ≤ r.2.1 at_) : 1 ≤ (brs D ty at_ (r :: l)).length := by
  have : D 70 (r.2.1 at_) ∈ kys D at_ (r :: l) [] := (kys_mem (r :: l) []).mpr (Or.inr ⟨r, by simp, h, rfl⟩)
  have h2 : (D 70 (r.2.1 at_), false) ∈ brs D ty at_ (r :: l) := by
    unfold brs
    exact List.mem_append_left _ (List.mem_map.mpr ⟨_, this, rfl⟩)
  exact List.length_pos_of_mem h2
end CLQ
