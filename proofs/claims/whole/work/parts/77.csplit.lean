/-! ===== the class: rows are split ===== -/
theorem nd_len : ∀ (l : List Int), l.Nodup → (∀ x ∈ l, 0 ≤ x ∧ x < 16) → l.length ≤ 16 := by
  have key : ∀ l : List Int, l.Nodup → (l.foldr ins []).length = l.length ∧ (l.foldr ins []).Pairwise (· < ·) ∧ ∀ y, y ∈ l.foldr ins [] ↔ y ∈ l := by
    intro l
    induction l with
    | nil => intro _; exact ⟨rfl, List.Pairwise.nil, fun y => Iff.rfl⟩
    | cons x l ih =>
      intro h
      rw [List.nodup_cons] at h
      obtain ⟨a, b, c⟩ := ih h.2
      refine ⟨?_, ins_ord _ b, fun y => ?_⟩
      · show (ins x (l.foldr ins [])).length = _
        rw [ins_len _ (fun z => h.1 ((c x).mp z)), a]; rfl
      · show y ∈ ins x (l.foldr ins []) ↔ _
        rw [ins_mem, c, List.mem_cons]
  intro l h1 h2
  obtain ⟨a, b, c⟩ := key l h1
  have := srt_len (hi := 16) (l.foldr ins []) 0 b (fun y hy => h2 y ((c y).mp hy)) (by omega)
  omega
theorem nmK_len {π nam : Int → Int} {l : List (Int × Int)} (h : nmK π nam l) : l.length ≤ 16 := by
  have := nd_len (l.map (fun x => x.2)) h.2.2 (fun y hy => by
    obtain ⟨x, hx, rfl⟩ := List.mem_map.mp hy
    exact (h.1 x hx).1)
  rw [List.length_map] at this
  exact this
section CSP
variable {D E : xM}
/-- what one putParts adds -/
theorem put_sz (hw : wfP D) {A P B N l : List (Int × Int)} (hl : (N ++ l).length ≤ 16) (hp : pL D (A ++ (P ++ B)) + 2 * ((N ++ l).length : Int) ≤ 243) (hi : ∀ x ∈ A ++ (P ++ B), isP D x.2) : A.length + P.length + N.length ≤ 86 := by
  have := pL_ge hw _ hi
  rw [List.length_append, List.length_append] at this
  rw [List.length_append] at hl hp
  omega
/-- what the making of rows may change -/
def frD (e : yE) (M M' : xM) : Prop := (∀ j, j < e.1 → j ≠ 29 → j ≠ 30 → j ≠ 34 → j ≠ 41 → j ≠ 43 → j ≠ 44 → ¬ isC e j → M' j = M j) ∧ ∀ i, i ≠ 9 → i ≠ 13 → i ≠ 15 → M' 29 i = M 29 i
def std (e : yE) (M : xM) (cs cl : Nat) (e' : yE) (M' : xM) (cs' cl' : Nat) : Prop := hpP e' M' cs' cl' ∧ yLe e e' ∧ rmC e e' cs cl cs' cl' ∧ frD e M M' ∧ grL M M' ∧ M' 34 0 + 86 * M 30 0 ≤ M 34 0 + 86 * M' 30 0
theorem frD_trans {e e1 : yE} {M M1 M2 : xM} (hl : yLe e e1) (h : frD e M M1) (h2 : frD e1 M1 M2) : frD e M M2 :=
  ⟨fun j a b c d f g k m => (h2.1 j (Nat.lt_of_lt_of_le a hl.1) b c d f g k (nC_le hl a m)).trans (h.1 j a b c d f g k m), fun i hi hi2 hi3 => (h2.2 i hi hi2 hi3).trans (h.2 i hi hi2 hi3)⟩
theorem std_trans {e e1 e2 : yE} {M M1 M2 : xM} {a b a1 b1 a2 b2 : Nat} (h : std e M a b e1 M1 a1 b1) (h2 : std e1 M1 a1 b1 e2 M2 a2 b2) : std e M a b e2 M2 a2 b2 :=
  ⟨h2.1, h.2.1.tr h2.2.1, rmC_trans h.2.2.1 h2.2.2.1, frD_trans h.2.1 h.2.2.2.1 h2.2.2.2.1, grL_trans h.2.2.2.2.1 h2.2.2.2.2.1, by have := h.2.2.2.2.2; have := h2.2.2.2.2.2; omega⟩
theorem std_refl {e : yE} {M : xM} {cs cl : Nat} (h : hpP e M cs cl) : std e M cs cl e M cs cl := ⟨h, yLe.rf, rmC_refl, ⟨fun _ _ _ _ _ _ _ _ _ => rfl, fun _ _ _ _ => rfl⟩, grL_refl, Int.le_refl _⟩
theorem stp_std {e e1 : yE} {M M1 : xM} {a b a1 b1 : Nat} (h : stp e M a b e1 M1 a1 b1) (hz : M1 34 0 + 86 * M 30 0 ≤ M 34 0 + 86 * M1 30 0) : std e M a b e1 M1 a1 b1 :=
  ⟨h.1, h.2.1, h.2.2.1, ⟨fun j x1 x2 x3 x4 _ _ x7 x8 => h.2.2.2.1.1 j x1 x2 x3 x4 x7 x8, fun i _ _ hi => h.2.2.2.1.2 i hi⟩, h.2.2.2.2, hz⟩
theorem nC_41 {e : yE} (h : CSh e) : ¬ isC e 41 := nC_a (caa_41 h) (by decide)
/-- a store to the builder's own -/
theorem std_up {e : yE} {M : xM} {cs cl k : Nat} {i v : Int} (hs : CSh e) (hp : hpP e M cs cl) (hk : (k = 29 ∧ (i = 9 ∨ i = 13 ∨ i = 15)) ∨ k = 41 ∨ k = 43 ∨ k = 44) : std e M cs cl e (xup M k i v) cs cl ∧ (∀ j x, (j = 1 ∨ j = 2 ∨ j = 3) → vL (xup M k i v) j x = vL M j x ∧ vS (xup M k i v) j x = vS M j x) ∧ (xup M k i v) 30 = M 30 ∧ (xup M k i v) 34 = M 34 := by
  have hn : ¬ isC e k := by
    rcases hk with ⟨z, -⟩ | z | z | z
    · subst z; exact nC_29 hs
    · subst z; exact nC_41 hs
    · subst z; exact nC_43 hs
    · subst z; exact nC_44 hs
  have k30 : k ≠ 30 := by rcases hk with ⟨z, -⟩ | z | z | z <;> (subst z; decide)
  have k34 : k ≠ 34 := by rcases hk with ⟨z, -⟩ | z | z | z <;> (subst z; decide)
  obtain ⟨a, b, c⟩ := hpC_up (i := i) (v := v) hp.1 hn k30 k34
  have m30 : (xup M k i v) 30 = M 30 := xrd (Ne.symm k30)
  have m34 : (xup M k i v) 34 = M 34 := xrd (Ne.symm k34)
  refine ⟨⟨⟨a, hp.2⟩, yLe.rf, rmC_refl, ⟨fun j _ h29 _ _ h41 h43 h44 _ => ?_, fun x hx hx2 hx3 => ?_⟩, b, by rw [m30, m34]; exact Int.le_refl _⟩, c, m30, m34⟩
  · refine xrd (fun z => ?_)
    rcases hk with ⟨y, -⟩ | y | y | y
    · exact h29 (z.trans y)
    · exact h41 (z.trans y)
    · exact h43 (z.trans y)
    · exact h44 (z.trans y)
  · rcases hk with ⟨y, y2⟩ | y | y | y
    · subst y
      refine xri (fun z => ?_)
      rcases y2 with y2 | y2 | y2
      · exact hx (z.trans y2)
      · exact hx2 (z.trans y2)
      · exact hx3 (z.trans y2)
    · subst y; exact congrFun (xrd (by decide)) x
    · subst y; exact congrFun (xrd (by decide)) x
    · subst y; exact congrFun (xrd (by decide)) x
theorem pCl_fD {e : yE} {M M' : xM} (hs : CSh e) (h : pCl M D) (hf : frD e M M') : pCl M' D := by
  have f : ∀ j, j < 59 → j ≠ 29 → j ≠ 30 → j ≠ 34 → j ≠ 41 → j ≠ 43 → j ≠ 44 → ¬ isC e j → M' j = M j := fun j a b c d g k m n => hf.1 j (Nat.lt_of_lt_of_le a hs.1) b c d g k m n
  have e19 := f 19 (by decide) (by decide) (by decide) (by decide) (by decide) (by decide) (by decide) (nC_19 hs)
  have e21 := f 21 (by decide) (by decide) (by decide) (by decide) (by decide) (by decide) (by decide) (nC_21 hs)
  have e24 := f 24 (by decide) (by decide) (by decide) (by decide) (by decide) (by decide) (by decide) (nC_24 hs)
  intro p hp
  rw [e19, e21, e24]
  exact h p hp
/-- the rows that the builder has at hand -/
def cR (D M : xM) (π : Int → Int) (w : Int) (col : Int → Int) (rows : List aR) : Prop := M 29 9 = rows.length ∧ ∀ (i : Nat) r, rows[i]? = some r → crw D M π w col (M 41 i) r
variable {e : yE} {d cs cl : Nat} {M : xM} {π col : Int → Int} {w np b at_ : Int}
/-- a place's columns apart -/
theorem pi_ne (hpi : piO π np b) (hc : okCo D w col np E) {i j : Int} (i0 : 0 ≤ i) (i1 : i < w) (j0 : 0 ≤ j) (j1 : j < w) (hij : i ≠ j) : π (col i) ≠ π (col j) := by
  intro z
  have a := (hc.2.2.1 i i0 i1).1
  have c := (hc.2.2.1 j j0 j1).1
  exact hij (hc.2.2.2 i j i0 i1 j0 j1 (hpi.2 _ _ a.1 a.2 c.1 c.2 z))
theorem opn_rg (hpi : piO π np b) (hb : b ≤ 1000) (hc : okCo D w col np E) {cell : Int → Int} : ∀ x ∈ opn π col cell w.toNat 0, rg x.1 := by
  intro x hx
  obtain ⟨j, hj, -, rfl⟩ := opn_mem _ _ hx
  have h1 := (hc.2.2.1 j (by omega) (by have := hc.1; omega)).1
  have := hpi.1 _ h1.1 h1.2
  exact ⟨by show -2147483648 ≤ π (col j); omega, by show π (col j) ≤ 2147483647; omega⟩
theorem s_patAt {Q : Int → xM → Prop} {s : Int} {r : aR} (hw : wfP D) (hs : CSh e) (hP : hpP e M cs cl) (h34 : M 34 0 ≤ 10000000) (hpi : piO π np b) (hb : b ≤ 1000) (hc : okCo D w col np E) (hat : 0 ≤ at_ ∧ at_ < w) (ho : okC D w r) (hr : crw D M π w col s r) (h : Q (r.2.1 at_) M) : C_Bu_patternAt e (d + 1) s (π (col at_)) M Q := by
  obtain ⟨h1, h2, h3, l, h4, h5, h6⟩ := hr
  have hlen := opn_len hw ho hc.1 h6
  have hca := (hc.2.2.1 at_ hat.1 hat.2).1
  have hpa := hpi.1 _ hca.1 hca.2
  refine s_patternAt hs hP.1 h34 ⟨by omega, by omega⟩ h1 h3 (opn_rg hpi hb hc) (by omega) ?_
  rw [opn_fd w.toNat 0 hat.1 (by omega) (fun i i0 i1 hi => pi_ne hpi hc i0 (by omega) hat.1 hat.2 hi)]
  have hv := okC_rg hw ho hat.1 hat.2
  by_cases z : r.2.1 at_ < 0
  · rw [if_pos z, show (-1 : Int) = r.2.1 at_ by omega]; exact h
  · rw [if_neg z]; exact h
theorem s_isEitherC {Q : Int → xM → Prop} {rows : List aR} {i : Nat} (hw : wfP D) (hs : CSh e) (hP : hpP e M cs cl) (hC : pCl M D) (h34 : M 34 0 ≤ 10000000) (hpi : piO π np b) (hb : b ≤ 1000) (hc : okCo D w col np E) (hat : 0 ≤ at_ ∧ at_ < w) (ho : ∀ q ∈ rows, okC D w q) (hR : cR D M π w col rows) (hl : rows.length ≤ 24) {r : aR} (hr : rows[i]? = some r) (h : Q (bI (0 ≤ r.2.1 at_ ∧ D 68 (r.2.1 at_) = 4)) M) : C_Bu_isEither e (d + 2) i (π (col at_)) M Q := by
  have hi : i < rows.length := by
    rcases Nat.lt_or_ge i rows.length with z | z
    · exact z
    · rw [List.getElem?_eq_none z] at hr; cases hr
  have h9 := hR.1
  have hor := ho r (List.mem_of_getElem? hr)
  have hv := okC_rg hw hor hat.1 hat.2
  refine c_Bu_isEither (c_Bu_isEither_0 hs ⟨⟨⟨by omega, by omega⟩, ⟨by omega, by omega⟩⟩, fun z => absurd z (by omega), fun _ => ⟨by omega, s_patAt hw hs hP h34 hpi hb hc hat hor (hR.2 i r hr) ?_⟩⟩)
  refine c_Bu_isEither_23 hs ⟨⟨by omega, by omega⟩, fun z => ?_, fun z => ?_⟩
  · rw [bI_f (by omega)] at h; exact h
  · have hp : isP D (r.2.1 at_) := by
      rcases hor at_ hat.1 hat.2 with y | y
      · exact absurd y z
      · exact y
    obtain ⟨q1, q2, q3, q4, q5, q6⟩ := hC _ hp
    have hp0 := hp.1
    have hk5 := (hw.2 _ hp).2.2.2.1
    have hk : (D 68 (r.2.1 at_) = 4 ∧ M 19 (r.2.1 at_) = 5) ∨ (D 68 (r.2.1 at_) ≠ 4 ∧ 0 ≤ M 19 (r.2.1 at_) ∧ M 19 (r.2.1 at_) ≤ 4) := by
      by_cases z0 : D 68 (r.2.1 at_) = 0
      · have := q2 z0; right; split at this <;> omega
      · by_cases z1 : D 68 (r.2.1 at_) = 1
        · have := q3 z1; right; omega
        · by_cases z2 : D 68 (r.2.1 at_) = 2
          · have := (q4 z2).1; right; omega
          · by_cases z3 : D 68 (r.2.1 at_) = 3
            · have := (q5 z3).1; right; omega
            · have := (q6 (by omega)).1; left; omega
    refine ⟨by omega, by rcases hk with y | y <;> exact ⟨by omega, by omega⟩, fun y => ?_, fun y => ?_⟩
    · rw [bI_f (by omega)] at h; exact h
    · rw [bI_t (by omega)] at h; exact h
end CSP
