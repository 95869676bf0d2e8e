/-! ===== the class: growTest ===== -/
/-- what a stretch of branches' growing may change -/
def frT (e : yE) (t : Nat) (lo n fp : Int) (M M' : xM) : Prop := (∀ j, j < e.1 → j ≠ 29 → j ≠ 30 → j ≠ 34 → j ≠ 39 → j ≠ 40 → j ≠ 43 → j ≠ 44 → j ≠ t → j ≠ t + 2 → j ≠ t + 9 → j ≠ t + 10 → j ≠ t + 11 → ¬ isC e j → M' j = M j) ∧ (∀ x, x ≠ 13 → x ≠ 15 → M' 29 x = M 29 x) ∧ (∀ x, x ≠ 4 → M' t x = M t x) ∧ (∀ x, x < fp → M' (t + 2) x = M (t + 2) x) ∧ (∀ x, ¬ (lo ≤ x ∧ x < lo + n) → M' (t + 9) x = M (t + 9) x ∧ M' (t + 10) x = M (t + 10) x ∧ M' (t + 11) x = M (t + 11) x ∧ M' 40 x = M 40 x) ∧ ∀ x, ¬ (lo * 24 ≤ x ∧ x < (lo + n) * 24) → M' 39 x = M 39 x
def stB (t : Nat) (lo n fp : Int) (e : yE) (M : xM) (cs cl : Nat) (e' : yE) (M' : xM) (cs' cl' : Nat) : Prop := hpP e' M' cs' cl' ∧ yLe e e' ∧ rmC e e' cs cl cs' cl' ∧ frT e t lo n fp M M' ∧ grL M M'
/-- how many rows get parts, over branches -/
def nPS (D : xM) (at_ : Int) (rows : List aR) : List (Int × Bool) → Nat
  | [] => 0
  | x :: l => nPt D at_ x.1 x.2 rows + nPS D at_ rows l
/-- the branches of a test -/
noncomputable def brs (D : xM) (ty at_ : Int) (rows : List aR) : List (Int × Bool) := (kys D at_ rows []).map (fun k => (k, false)) ++ (if ty = 0 ∨ ((kys D at_ rows []).length : Int) < D 60 ty then [(lA (kys D at_ rows []) 0, true)] else [])
/-- a branch that has grown -/
def grn (D : xM) (t : Nat) (π : Int → Int) (w : Int) (col : Int → Int) (np ty at_ : Int) (rows : List aR) (fp : Int) (M : xM) (x k : Int) (o : Bool) : Prop := ∃ f, fp ≤ f ∧ f + nPs D ty k ≤ M t 4 ∧ M (t + 9) x = k ∧ M (t + 10) x = oI o ∧ M (t + 11) x = f ∧ kpt D M (piN π np f) (w - 1 + bMn D ty k o) (bCol col np at_ (bMn D ty k o)) x (bRs D np at_ (bMn D ty k o) k o rows) ∧ ∀ j, 0 ≤ j → j < nPs D ty k → M (t + 2) (f + j) = D 62 (3 * (6 * ty + k) + j)
section CGT
variable {D E : xM} {d : Nat} {t : Nat} {π col : Int → Int} {w np b at_ i fp n lo : Int}
theorem nPS_app {rows : List aR} : ∀ (l l2 : List (Int × Bool)), nPS D at_ rows (l ++ l2) = nPS D at_ rows l + nPS D at_ rows l2 := by
  intro l l2
  induction l with
  | nil => simp [nPS]
  | cons x l ih =>
    show nPt D at_ x.1 x.2 rows + nPS D at_ rows (l ++ l2) = nPt D at_ x.1 x.2 rows + nPS D at_ rows l + nPS D at_ rows l2
    rw [ih]; omega
theorem nPt_oth {k : Int} : ∀ rows : List aR, nPt D at_ k true rows = 0 := by
  intro rows
  induction rows with
  | nil => rfl
  | cons r rs ih => unfold nPt; rw [if_neg (by simp), ih]
theorem nPS_le {ks : List Int} (hk : ks.Pairwise (· < ·)) : ∀ rows : List aR, nPS D at_ rows (ks.map (fun k => (k, false))) ≤ rows.length := by
  intro rows
  induction rows with
  | nil =>
    have : ∀ l : List (Int × Bool), nPS D at_ [] l = 0 := by
      intro l
      induction l with
      | nil => rfl
      | cons x l ih => unfold nPS; rw [ih]; rfl
    rw [this]; exact Nat.le_refl _
  | cons r rs ih =>
    have : ∀ ks : List Int, ks.Pairwise (· < ·) → nPS D at_ (r :: rs) (ks.map (fun k => (k, false))) ≤ nPS D at_ rs (ks.map (fun k => (k, false))) + (if D 70 (r.2.1 at_) ∈ ks then 1 else 0) := by
      intro ks hp
      induction ks with
      | nil => simp [nPS]
      | cons k ks ih2 =>
        rw [List.pairwise_cons] at hp
        have h2 := ih2 hp.2
        have e1 : nPS D at_ (r :: rs) ((k :: ks).map (fun k => (k, false))) = ((if 0 ≤ r.2.1 at_ ∧ (false = false) ∧ D 70 (r.2.1 at_) = k then 1 else 0) + nPt D at_ k false rs) + nPS D at_ (r :: rs) (ks.map (fun k => (k, false))) := rfl
        have e2 : nPS D at_ rs ((k :: ks).map (fun k => (k, false))) = nPt D at_ k false rs + nPS D at_ rs (ks.map (fun k => (k, false))) := rfl
        rw [e1, e2]
        by_cases z : D 70 (r.2.1 at_) = k
        · rw [if_pos (show D 70 (r.2.1 at_) ∈ k :: ks by simp [z])]
          rw [if_neg (fun y => by have := hp.1 _ y; omega)] at h2
          split <;> omega
        · rw [if_neg (fun y => z y.2.2)]
          by_cases z2 : D 70 (r.2.1 at_) ∈ ks
          · rw [if_pos (show D 70 (r.2.1 at_) ∈ k :: ks by simp [z2])]
            rw [if_pos z2] at h2; omega
          · rw [if_neg (show ¬ D 70 (r.2.1 at_) ∈ k :: ks by simp [z, z2])]
            rw [if_neg z2] at h2; omega
    have h := this ks hk
    rw [List.length_cons]
    split at h <;> omega
theorem brs_le {ty : Int} (rows : List aR) : nPS D at_ rows (brs D ty at_ rows) ≤ rows.length := by
  unfold brs
  rw [nPS_app]
  have h := nPS_le (D := D) (at_ := at_) (kys_ord (D := D) (at_ := at_) rows [] List.Pairwise.nil) rows
  split
  · show _ + (nPt D at_ _ true rows + 0) ≤ _
    rw [nPt_oth]; omega
  · show _ + 0 ≤ _
    omega
theorem frT_trans {e e1 : yE} {M M1 M2 : xM} (hl : yLe e e1) (h : frT e t lo n fp M M1) (h2 : frT e1 t lo n fp M1 M2) : frT e t lo n fp M M2 := by
  obtain ⟨a1, a2, a3, a4, a5, a6⟩ := h
  obtain ⟨b1, b2, b3, b4, b5, b6⟩ := h2
  refine ⟨fun j x0 x1 x2 x3 x4 x5 x6 x7 x8 x9 x10 x11 x12 x13 => (b1 j (Nat.lt_of_lt_of_le x0 hl.1) x1 x2 x3 x4 x5 x6 x7 x8 x9 x10 x11 x12 (nC_le hl x0 x13)).trans (a1 j x0 x1 x2 x3 x4 x5 x6 x7 x8 x9 x10 x11 x12 x13), fun x y z => (b2 x y z).trans (a2 x y z), fun x y => (b3 x y).trans (a3 x y), fun x y => (b4 x y).trans (a4 x y), fun x y => ?_, fun x y => (b6 x y).trans (a6 x y)⟩
  obtain ⟨c1, c2, c3, c4⟩ := a5 x y
  obtain ⟨d1, d2, d3, d4⟩ := b5 x y
  exact ⟨d1.trans c1, d2.trans c2, d3.trans c3, d4.trans c4⟩
theorem stB_trans {e e1 e2 : yE} {M M1 M2 : xM} {a b a1 b1 a2 b2 : Nat} (h : stB t lo n fp e M a b e1 M1 a1 b1) (h2 : stB t lo n fp e1 M1 a1 b1 e2 M2 a2 b2) : stB t lo n fp e M a b e2 M2 a2 b2 :=
  ⟨h2.1, h.2.1.tr h2.2.1, rmC_trans h.2.2.1 h2.2.2.1, frT_trans h.2.1 h.2.2.2.1 h2.2.2.2.1, grL_trans h.2.2.2.2 h2.2.2.2.2⟩
theorem stB_refl {e : yE} {M : xM} {cs cl : Nat} (h : hpP e M cs cl) : stB t lo n fp e M cs cl e M cs cl := ⟨h, yLe.rf, rmC_refl, ⟨fun _ _ _ _ _ _ _ _ _ _ _ _ _ _ _ => rfl, fun _ _ _ => rfl, fun _ _ => rfl, fun _ _ => rfl, fun _ _ => ⟨rfl, rfl, rfl, rfl⟩, fun _ _ => rfl⟩, grL_refl⟩
theorem stB_G {e e1 : yE} {M M1 : xM} {a b a1 b1 : Nat} {f : Int} (hi : lo ≤ i ∧ i < lo + n) (hf : fp ≤ f) (h : stG t i f e M a b e1 M1 a1 b1) : stB t lo n fp e M a b e1 M1 a1 b1 := by
  obtain ⟨a1, a2, a3, ⟨b1, b2, b3, b4, b5, b6⟩, a5⟩ := h
  exact ⟨a1, a2, a3, ⟨b1, b2, b3, fun x hx => b4 x (by omega), fun x hx => b5 x (by omega), fun x hx => b6 x (by omega)⟩, a5⟩
/-- another branch's growing keeps a branch -/
theorem kpt_G {e e1 : yE} {M M1 : xM} {a b a1 b1 : Nat} {f x w' : Int} {π' col' : Int → Int} {acc : List aR} (hx : x ≠ i) (hl : acc.length ≤ 24) (h : stG t i f e M a b e1 M1 a1 b1) (hk : kpt D M π' w' col' x acc) : kpt D M1 π' w' col' x acc := by
  obtain ⟨a1, a2, a3, ⟨b1, b2, b3, b4, b5, b6⟩, a5⟩ := h
  obtain ⟨k1, k2⟩ := hk
  refine ⟨by rw [(b5 x hx).2.2.2]; exact k1, fun r q hq => ?_⟩
  have hr : r < acc.length := by
    rcases Nat.lt_or_ge r acc.length with z | z
    · exact z
    · rw [List.getElem?_eq_none z] at hq; cases hq
  rw [b6 _ (by omega)]
  exact crw_gr a5 (k2 r q hq)
theorem grn_G {e e1 : yE} {M M1 : xM} {a b a1 b1 : Nat} {ty f x k : Int} {o : Bool} {rows : List aR} (hx : x ≠ i) (hl : rows.length ≤ 24) (h : stG t i f e M a b e1 M1 a1 b1) (hf : M t 4 = f) (h4 : f ≤ M1 t 4) (hk : grn D t π w col np ty at_ rows fp M x k o) : grn D t π w col np ty at_ rows fp M1 x k o := by
  obtain ⟨g, g1, g2, g3, g4, g5, g6, g7⟩ := hk
  have hb := bRs_len (D := D) (np := np) (at_ := at_) (m := bMn D ty k o) (key := k) (oth := o) rows
  have h0 := h
  obtain ⟨a1, a2, a3, ⟨b1, b2, b3, b4, b5, b6⟩, a5⟩ := h
  obtain ⟨c1, c2, c3, c4⟩ := b5 x hx
  exact ⟨g, g1, by omega, by rw [c1]; exact g3, by rw [c2]; exact g4, by rw [c3]; exact g5, kpt_G hx (by omega) h0 g6, fun j j0 j1 => by rw [b4 _ (by omega)]; exact g7 j j0 j1⟩
end CGT
