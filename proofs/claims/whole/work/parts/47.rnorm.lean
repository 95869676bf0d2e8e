/-! ===== the reference: a node's rows are split as far as they must ===== -/
theorem fOp_congr {f g : Int → Int} : ∀ (n : Nat) (k : Int), (∀ j, k ≤ j → j < k + n → f j = g j) → fOp f n k = fOp g n k := by
  intro n
  induction n with
  | zero => intro k _; rfl
  | succ n ih =>
    intro k h
    unfold fOp
    rw [h k (by omega) (by omega), ih (k + 1) (fun j h1 h2 => h j (by omega) (by omega))]
theorem fOp_is {f : Int → Int} : ∀ (n : Nat) (k : Int), (fOp f n k = -1 ∧ ∀ j, k ≤ j → j < k + n → f j < 0) ∨ (k ≤ fOp f n k ∧ fOp f n k < k + n ∧ 0 ≤ f (fOp f n k) ∧ ∀ j, k ≤ j → j < fOp f n k → f j < 0) := by
  intro n
  induction n with
  | zero => intro k; exact Or.inl ⟨rfl, fun j h1 h2 => by omega⟩
  | succ n ih =>
    intro k
    unfold fOp
    by_cases h : 0 ≤ f k
    · rw [if_pos h]
      exact Or.inr ⟨by omega, by omega, h, fun j h1 h2 => by omega⟩
    · rw [if_neg h]
      rcases ih (k + 1) with ⟨a, b⟩ | ⟨a, b, c, d⟩
      · refine Or.inl ⟨a, fun j h1 h2 => ?_⟩
        by_cases hj : j = k
        · subst hj; omega
        · exact b j (by omega) (by omega)
      · refine Or.inr ⟨by omega, by omega, c, fun j h1 h2 => ?_⟩
        by_cases hj : j = k
        · subst hj; omega
        · exact d j (by omega) (by omega)
/-- the first column of the first row that is not ANY -/
def fA (w : Int) (rows : List aR) : Int := match rows with | [] => -1 | r :: _ => fOp r.2.1 w.toNat 0
theorem fA_is {w : Int} {rows : List aR} (hw : 0 ≤ w) : fA w rows = -1 ∨ (0 ≤ fA w rows ∧ fA w rows < w) := by
  cases rows with
  | nil => exact Or.inl rfl
  | cons r rs =>
    rcases fOp_is (f := r.2.1) w.toNat 0 with ⟨a, -⟩ | ⟨a, b, -, -⟩
    · exact Or.inl a
    · exact Or.inr ⟨a, by show fOp r.2.1 w.toNat 0 < w; omega⟩
section RNRM
variable {e : yE} {d : Nat} {D : xM} {s w cb lst at_ x4 : Int} {col : Int → Int}
theorem okC_spl (hw : wfP D) {r : aR} (h : okC D w r) (hat : 0 ≤ at_ ∧ at_ < w) (hE : 0 ≤ r.2.1 at_ ∧ D 68 (r.2.1 at_) = 4) {j : Int} (hj : 0 ≤ j ∧ j < 2) : okC D w (spl D col at_ r j) := by
  intro k h0 h1
  show uf r.2.1 at_ (lF D (prt D (r.2.1 at_) j)) k = -1 ∨ isP D (uf r.2.1 at_ (lF D (prt D (r.2.1 at_) j)) k)
  unfold uf
  by_cases hk : k = at_
  · rw [if_pos hk]
    have hp : isP D (r.2.1 at_) := by
      rcases h at_ hat.1 hat.2 with h | h
      · omega
      · exact h
    rcases lF_rg hw (Or.inl (((hw.2 _ hp).2.2.2.2.2.2.2.2 hE.2).1 j hj.1 hj.2).1) with h | h
    · exact Or.inl h
    · exact Or.inr h.1
  · rw [if_neg hk]; exact h k h0 h1
theorem s_split_over {M : xM} {Q : xM → Prop} {row : Int} (hs : RSh e) (h1 : 0 ≤ s ∧ s ≤ 8000) (h2 : M 59 31 = s + 24) (h : Q (xup M 59 45 1)) : R_split e (d + 1) s row at_ lst w M Q := by
  refine t_split (t_split_0 hs ⟨by rw [h2]; exact ⟨by omega, by omega⟩, fun c => absurd (by rw [h2]; omega) c, fun _ M3 e3 => ?_⟩)
  rw [e3]; exact h
/-- the first open column, read from the rows -/
theorem s_firstOpen_R {M : xM} {Q : Int → xM → Prop} {r : aR} {row : Int} (hs : RSh e) (hb : okB D M s w cb col lst) (hr : 0 ≤ row ∧ row < 8000) (hc : 0 ≤ M 84 row ∧ M 84 row + w ≤ 2300000) (hI : rwI M row w r) (hok : okC D w r) (h : Q (fOp r.2.1 w.toNat 0) M) : R_firstOpen e (d + 2) row w M Q := by
  have hw := hb.2.2.2.1
  refine s_firstOpen hs hr (by omega) hc (fun k h0 h1 => ?_) ?_
  · rw [hI.2.1 k h0 h1]; exact okC_rg hb.1 hok h0 h1
  · rw [fOp_congr w.toNat 0 (g := r.2.1) (fun j h1 h2 => hI.2.1 j (by omega) (by omega))]; exact h
theorem s_isEither_R {M : xM} {Q : Int → xM → Prop} {r : aR} {row : Int} (hs : RSh e) (hb : okB D M s w cb col lst) (hr : 0 ≤ row ∧ row < 8000) (hc : 0 ≤ M 84 row ∧ M 84 row + w ≤ 2300000) (hat : 0 ≤ at_ ∧ at_ < w) (hI : rwI M row w r) (hok : okC D w r) (h : Q (bI (0 ≤ r.2.1 at_ ∧ D 68 (r.2.1 at_) = 4)) M) : R_isEither e (d + 2) row at_ M Q := by
  have e1 := hI.2.1 at_ hat.1 hat.2
  refine s_isEither (D := D) hs hb.1 hb.2.1.1 hr (by omega) (by rw [e1]; exact hok at_ hat.1 hat.2) ?_
  rw [e1]; exact h
theorem ndR_at {M : xM} {rows : List aR} (hb : okB D M s w cb col lst) (hn : ndR M s w cb rows) (hl : rows.length ≤ 24) {i : Nat} (hi : i < rows.length) : (0 ≤ s + (i : Int) ∧ s + (i : Int) < 8000) ∧ (0 ≤ M 84 (s + i) ∧ M 84 (s + i) + w ≤ 2300000) := by
  obtain ⟨-, -, h1, h2, h3, -, -⟩ := hb
  have a := hn.2.2.1 i hi
  have m1 := mul_0 (i := i) (w := w) h2.1
  have m2 := mul_st (i := i) (j := 50) (w := w) (by omega) h2.1
  have m3 : ((50 : Nat) : Int) * w = 50 * w := rfl
  omega
theorem ndR_45 {M : xM} {rows : List aR} {v : Int} (hn : ndR M s w cb rows) : ndR (xup M 59 45 v) s w cb rows := by
  refine ⟨by rw [xri (by decide)]; exact hn.1, by rw [xri (by decide)]; exact hn.2.1, fun i hi => by rw [xrd (by decide)]; exact hn.2.2.1 i hi, fun i q hq => ?_⟩
  obtain ⟨a, b, c⟩ := hn.2.2.2 i q hq
  exact ⟨by rw [xrd (by decide)]; exact a, fun k h0 h1 => by rw [xrd (by decide), xrd (by decide)]; exact b k h0 h1, fun k h0 h1 => by rw [xrd (by decide)]; exact c k h0 h1⟩
theorem okB_45 {M : xM} {v : Int} (h : okB D M s w cb col lst) : okB D (xup M 59 45 v) s w cb col lst :=
  ⟨h.1, ⟨by rw [xrd (by decide)]; exact h.2.1.1, by rw [xrd (by decide)]; exact h.2.1.2.1, by rw [xrd (by decide)]; exact h.2.1.2.2⟩, h.2.2.1, h.2.2.2.1, h.2.2.2.2.1, h.2.2.2.2.2.1, fun k h0 h1 => by rw [xrd (by decide)]; exact h.2.2.2.2.2.2 k h0 h1⟩
/-- the first row is split as long as EITHER stands first in it -/
theorem s_nF {Q : xM → Prop} (hs : RSh e) : ∀ (n : Nat) (M : xM) (rows : List aR), okB D M s w cb col lst → ndR M s w cb rows → rows.length ≤ 24 → 25 ≤ rows.length + n → (∀ q ∈ rows, okC D w q) → M 59 45 = 0 →
    (nF D w col n rows = none → ∀ M' a, frS s cb M M' → R_node_78 e (d + 2) s lst w x4 a (xup M' 59 45 1) Q) →
    (∀ rows', nF D w col n rows = some rows' → ∀ M', frS s cb M M' → ndR M' s w cb rows' → (∀ q ∈ rows', okC D w q) → rows'.length ≤ 24 → R_node_78 e (d + 2) s lst w x4 (fA w rows') M' Q) →
    R_node_35 e (d + 2) s lst w x4 (fA w rows) M Q := by
  intro n
  induction n with
  | zero => intro M rows _ _ h1 h2; omega
  | succ n ih =>
    intro M rows hb hn hl hf hc h45 h0 h1
    cases rows with
    | nil =>
      exact t_node_35 hs ⟨by show rg (-1); exact ⟨by omega, by omega⟩, fun _ => h1 [] rfl M frS_refl hn hc hl, fun c => absurd (by show (-1 : Int) < 0; omega) c⟩
    | cons r rs =>
      have hok : okC D w r := hc r (by simp)
      have hw := hb.2.2.2.1
      have hrw : rwI M s w r := by have := hn.2.2.2 0 r rfl; rw [show s + ((0 : Nat) : Int) = s by omega] at this; exact this
      have hat0 := ndR_at hb hn hl (i := 0) (by simp)
      rw [show s + ((0 : Nat) : Int) = s by omega] at hat0
      have hA := fA_is (w := w) (rows := r :: rs) hw.1
      obtain ⟨a, ha⟩ : ∃ a, a = fA w (r :: rs) := ⟨_, rfl⟩
      have ha2 : fOp r.2.1 w.toNat 0 = a := by rw [ha]; rfl
      rw [← ha] at hA
      have h1r := h1 (r :: rs)
      rw [← ha] at h1r ⊢
      unfold nF at h0 h1 h1r
      rw [ha2] at h0 h1 h1r
      refine t_node_35 hs ⟨⟨by omega, by omega⟩, fun c => ?_, fun c => s_isEither_R (at_ := a) hs hb hat0.1 hat0.2 (by omega) hrw hok ⟨bI_rg, fun c2 => ?_, fun c2 => ?_⟩⟩
      · exact h1r (by rw [if_neg (by omega)]) M frS_refl hn hc hl
      · rw [bI_0] at c2
        exact h1r (by rw [if_neg (fun z => c2 z.2)]) M frS_refl hn hc hl
      · have c3 : 0 ≤ r.2.1 a ∧ D 68 (r.2.1 a) = 4 := Classical.not_not.mp (fun z => c2 (bI_0.mpr z))
        rw [if_pos ⟨by omega, c3⟩] at h0 h1 h1r
        rw [h45]
        refine ⟨⟨by omega, by omega⟩, fun z => absurd rfl z, fun _ => ?_⟩
        by_cases h24 : rs.length = 23
        · rw [if_pos h24] at h0
          have h31 : M 59 31 = s + 24 := by rw [hn.1, List.length_cons, h24]; rfl
          have hb' : okB D (xup M 59 45 1) s w cb col lst := okB_45 hb
          have hn' : ndR (xup M 59 45 1) s w cb (r :: rs) := ndR_45 hn
          have hrw' : rwI (xup M 59 45 1) s w r := by have := hn'.2.2.2 0 r rfl; rw [show s + ((0 : Nat) : Int) = s by omega] at this; exact this
          have hat' := ndR_at hb' hn' hl (i := 0) (by simp)
          rw [show s + ((0 : Nat) : Int) = s by omega] at hat'
          refine s_split_over hs (by omega) h31 (s_firstOpen_R hs hb' hat'.1 hat'.2 hrw' hok ?_)
          rw [ha2]
          refine t_node_35 hs ⟨⟨by omega, by omega⟩, fun c => absurd c (by omega), fun c => s_isEither_R (at_ := a) hs hb' hat'.1 hat'.2 (by omega) hrw' hok ⟨bI_rg, fun c5 => absurd (bI_0.mp c5) (fun z => z c3), fun _ => ?_⟩⟩
          rw [xrs]
          exact ⟨⟨by omega, by omega⟩, fun _ => h0 rfl M a frS_refl, fun z => absurd (by omega) z⟩
        · rw [if_neg h24] at h0 h1 h1r
          have hp0 : s = s + (([] : List aR).length : Int) := by simp
          have hsp := s_split (e := e) (d := d) (D := D) (M := M) (s := s) (w := w) (cb := cb) (lst := lst) (at_ := a) (col := col) (pre := []) (post := rs) (r := r) (Q := fun M3 => R_firstOpen e (d + 2) s w M3 (fun y5 M4 => R_node_35 e (d + 2) s lst w x4 y5 M4 Q)) hs hb hn (by rw [List.nil_append, List.length_cons] at *; omega) (by omega) c3 hc ?_
          · rw [← hp0] at hsp; exact hsp
          · intro M' hn' hfr
            rw [List.nil_append] at hn'
            have hb' := okB_fr hb hfr
            have hl' : (spl D col a r 0 :: spl D col a r 1 :: rs).length ≤ 24 := by rw [List.length_cons, List.length_cons]; rw [List.length_cons] at hl; omega
            have hc' : ∀ q ∈ spl D col a r 0 :: spl D col a r 1 :: rs, okC D w q := by
              intro q hq
              rcases List.mem_cons.mp hq with h | h
              · subst h; exact okC_spl hb.1 hok (by omega) c3 (by omega)
              · rcases List.mem_cons.mp h with h | h
                · subst h; exact okC_spl hb.1 hok (by omega) c3 (by omega)
                · exact hc q (List.mem_cons_of_mem _ h)
            have hrw' : rwI M' s w (spl D col a r 0) := by have := hn'.2.2.2 0 _ rfl; rw [show s + ((0 : Nat) : Int) = s by omega] at this; exact this
            have hat' := ndR_at hb' hn' hl' (i := 0) (by simp)
            rw [show s + ((0 : Nat) : Int) = s by omega] at hat'
            refine s_firstOpen_R hs hb' hat'.1 hat'.2 hrw' (hc' _ (by simp)) ?_
            refine ih M' (spl D col a r 0 :: spl D col a r 1 :: rs) hb' hn' hl' ?_ hc' ?_ ?_ ?_
            · rw [List.length_cons, List.length_cons]; rw [List.length_cons] at hf; omega
            · rw [frS_o hfr 45 (by omega)]; exact h45
            · exact fun z M'' b hf2 => h0 z M'' b (frS_trans hfr hf2)
            · exact fun rows' z M'' hf2 => h1 rows' z M'' (frS_trans hfr hf2)
/-- once it is too large, the rows are only passed by -/
theorem s_pass {M : xM} {Q : xM → Prop} {rows : List aR} (hs : RSh e) (hb : okB D M s w cb col lst) (hn : ndR M s w cb rows) (hl : rows.length ≤ 24) (hc : ∀ q ∈ rows, okC D w q) (hat : 0 ≤ at_ ∧ at_ < w) (h45 : M 59 45 = 1) (h46 : 0 ≤ M 59 46 ∧ M 59 46 ≤ 100000)
    (h : R_node_182 e (d + 2) s x4 (xup (xup (xup M 59 45 1) 59 46 (M 59 46 + 1)) 94 0 (M 94 0 + 1)) Q) : ∀ (n i : Nat), i + n = rows.length → R_node_118 e (d + 2) s lst w x4 at_ (s + i) M Q := by
  have hsb := hb.2.2.1
  intro n
  induction n with
  | zero =>
    intro i hi
    have h31 := hn.1
    refine t_node_118 hs ⟨⟨⟨by omega, by omega⟩, ⟨by omega, by omega⟩⟩, fun _ => ?_, fun c => absurd (by omega) c⟩
    refine s_countNode hs (Or.inr h45) h46 (by omega) (fun z => by omega) (fun _ => ⟨⟨by omega, by omega⟩, fun _ => h, fun c => absurd rfl c⟩)
  | succ n ih =>
    intro i hi
    have h31 := hn.1
    obtain ⟨q, hq⟩ : ∃ q, rows[i]? = some q := ⟨_, List.getElem?_eq_getElem (by omega)⟩
    have hA := ndR_at hb hn hl (i := i) (by omega)
    have hgo : R_node_118 e (d + 2) s lst w x4 at_ (s + (i : Int) + 1) M Q := by
      have := ih (i + 1) (by omega)
      rw [show s + ((i + 1 : Nat) : Int) = s + (i : Int) + 1 by omega] at this
      exact this
    refine t_node_118 hs ⟨⟨⟨by omega, by omega⟩, ⟨by omega, by omega⟩⟩, fun c => absurd c (by omega), fun _ => ?_⟩
    refine t_node_127 hs (s_isEither_R hs hb hA.1 hA.2 hat (hn.2.2.2 i q hq) (hc q (List.mem_of_getElem? hq)) ⟨bI_rg, fun _ => hgo, fun _ => ?_⟩)
    rw [h45]
    exact ⟨⟨by omega, by omega⟩, fun _ => hgo, fun z => absurd (by omega) z⟩
/-- all rows are split at one column -/
theorem s_nA {Q : xM → Prop} (hs : RSh e) (hat : 0 ≤ at_ ∧ at_ < w) : ∀ (n : Nat) (M : xM) (dn todo : List aR), okB D M s w cb col lst → ndR M s w cb (dn ++ todo) → (dn ++ todo).length ≤ 24 → 2 * (24 - (dn ++ todo).length) + todo.length < n → (∀ q ∈ dn ++ todo, okC D w q) → M 59 45 = 0 → (0 ≤ M 59 46 ∧ M 59 46 ≤ 100000) →
    (nA D col at_ n dn todo = none → ∀ M', frS s cb M M' → R_node_182 e (d + 2) s x4 (xup (xup (xup (xup M' 59 45 1) 59 45 1) 59 46 (M' 59 46 + 1)) 94 0 (M' 94 0 + 1)) Q) →
    (∀ rows', nA D col at_ n dn todo = some rows' → ∀ M', frS s cb M M' → ndR M' s w cb rows' → (∀ q ∈ rows', okC D w q) → rows'.length ≤ 24 → R_node_118 e (d + 2) s lst w x4 at_ (s + rows'.length) M' Q) →
    R_node_118 e (d + 2) s lst w x4 at_ (s + dn.length) M Q ∧ (todo ≠ [] → R_node_127 e (d + 2) s lst w x4 at_ (s + dn.length) M Q) := by
  intro n
  induction n with
  | zero => intro M dn todo _ _ _ h; omega
  | succ n ih =>
    intro M dn todo hb hn hl hf hc h45 h46 h0 h1
    have hsb := hb.2.2.1
    have h127 : todo ≠ [] → R_node_127 e (d + 2) s lst w x4 at_ (s + dn.length) M Q := by
      intro hne
      cases todo with
      | nil => exact absurd rfl hne
      | cons r rs =>
        have hgr : (dn ++ r :: rs)[dn.length]? = some r := by rw [List.getElem?_append_right (Nat.le_refl _), Nat.sub_self]; rfl
        have hlr : dn.length < (dn ++ r :: rs).length := by rw [List.length_append, List.length_cons]; omega
        have hA := ndR_at hb hn hl hlr
        have hok := hc r (by simp)
        unfold nA at h0 h1
        refine t_node_127 hs (s_isEither_R hs hb hA.1 hA.2 hat (hn.2.2.2 _ r hgr) hok ⟨bI_rg, fun c2 => ?_, fun c2 => ?_⟩)
        · rw [bI_0] at c2
          rw [if_neg c2] at h0
          have := (ih M (dn ++ [r]) rs hb (by simpa using hn) (by simpa using hl) ?_ (by simpa using hc) h45 h46 h0 (fun rows' z => h1 rows' (by rw [if_neg c2]; exact z))).1
          · rw [List.length_append, List.length_singleton, show s + ((dn.length + 1 : Nat) : Int) = s + (dn.length : Int) + 1 by omega] at this
            exact this
          · simp at hf ⊢; omega
        · have c3 : 0 ≤ r.2.1 at_ ∧ D 68 (r.2.1 at_) = 4 := Classical.not_not.mp (fun z => c2 (bI_0.mpr z))
          rw [if_pos c3] at h0
          rw [h45]
          refine ⟨⟨by omega, by omega⟩, fun z => absurd rfl z, fun _ => ?_⟩
          by_cases h24 : dn.length + rs.length = 23
          · rw [if_pos h24] at h0
            have h31 : M 59 31 = s + 24 := by rw [hn.1, List.length_append, List.length_cons]; omega
            refine s_split_over hs (by omega) h31 ?_
            have hb' : okB D (xup M 59 45 1) s w cb col lst := okB_45 hb
            have hn' : ndR (xup M 59 45 1) s w cb (dn ++ r :: rs) := ndR_45 hn
            have hA' := ndR_at hb' hn' hl hlr
            have h46' : (xup M 59 45 1) 59 46 = M 59 46 := by rw [xri (by decide)]
            have h94' : (xup M 59 45 1) 94 0 = M 94 0 := by rw [xrd (by decide)]
            have hp := s_pass (e := e) (d := d) (x4 := x4) (Q := Q) hs hb' hn' hl hc hat xrs (by rw [h46']; exact h46) (by rw [h46', h94']; exact h0 rfl M frS_refl) rs.length (dn.length + 1) (by rw [List.length_append, List.length_cons]; omega)
            rw [show s + ((dn.length + 1 : Nat) : Int) = s + (dn.length : Int) + 1 by omega] at hp
            refine t_node_127 hs (s_isEither_R hs hb' hA'.1 hA'.2 hat (hn'.2.2.2 _ r hgr) hok ⟨bI_rg, fun _ => hp, fun _ => ?_⟩)
            rw [xrs]
            exact ⟨⟨by omega, by omega⟩, fun _ => hp, fun z => absurd (by omega) z⟩
          · rw [if_neg h24] at h0
            refine s_split (col := col) (D := D) (cb := cb) hs hb hn (by rw [List.length_append, List.length_cons]; rw [List.length_append, List.length_cons] at hl; omega) hat c3 hc ?_
            intro M' hn' hfr
            have hb' := okB_fr hb hfr
            refine (ih M' dn (spl D col at_ r 0 :: spl D col at_ r 1 :: rs) hb' hn' ?_ ?_ ?_ ?_ ?_ ?_ ?_).2 (by simp)
            · simp at hl ⊢; omega
            · simp at hf hl ⊢; omega
            · intro q hq
              rcases List.mem_append.mp hq with h | h
              · exact hc q (by simp [h])
              · rcases List.mem_cons.mp h with h | h
                · subst h; exact okC_spl hb.1 hok hat c3 (by omega)
                · rcases List.mem_cons.mp h with h | h
                  · subst h; exact okC_spl hb.1 hok hat c3 (by omega)
                  · exact hc q (by simp [h])
            · rw [frS_o hfr 45 (by omega)]; exact h45
            · rw [frS_o hfr 46 (by omega)]; exact h46
            · exact fun z M'' hf2 => h0 z M'' (frS_trans hfr hf2)
            · exact fun rows' z M'' hf2 => h1 rows' (by rw [if_pos c3, if_neg h24]; exact z) M'' (frS_trans hfr hf2)
    refine ⟨?_, h127⟩
    cases todo with
    | nil =>
      have := h1 dn rfl M frS_refl (by simpa using hn) (by simpa using hc) (by simpa using hl)
      exact this
    | cons r rs =>
      have h31 := hn.1
      rw [List.length_append, List.length_cons] at h31 hl
      exact t_node_118 hs ⟨⟨⟨by omega, by omega⟩, ⟨by omega, by omega⟩⟩, fun c => absurd c (by omega), fun _ => h127 (by simp)⟩
end RNRM
