/-! ===== the class: splitFirst, splitAll ===== -/
section CNR
variable {D E : xM} {d : Nat} {π col : Int → Int} {w np b : Int} {t : Nat}
/-- the place that counts -/
def pcl (π col : Int → Int) (w : Int) (rows : List aR) : Int := if fA w rows < 0 then -1 else π (col (fA w rows))
theorem opn_hd {cell : Int → Int} : ∀ (n : Nat) (k : Int), (fOp cell n k = -1 ∧ opn π col cell n k = []) ∨ (k ≤ fOp cell n k ∧ ∃ l, opn π col cell n k = (π (col (fOp cell n k)), cell (fOp cell n k)) :: l) := by
  intro n
  induction n with
  | zero => intro k; exact Or.inl ⟨rfl, rfl⟩
  | succ n ih =>
    intro k
    unfold fOp opn
    by_cases c : 0 ≤ cell k
    · rw [if_pos c, if_neg (by omega)]
      exact Or.inr ⟨Int.le_refl _, _, rfl⟩
    · rw [if_neg c, if_pos (by omega), List.nil_append]
      rcases ih (k + 1) with z | ⟨z1, z2⟩
      · exact Or.inl z
      · exact Or.inr ⟨by omega, z2⟩
theorem s_placeC {e : yE} {cs cl : Nat} {M : xM} {Q : Int → xM → Prop} {rows : List aR} (hs : CSh e) (hP : hpP e M cs cl) (hl : rows.length ≤ 24) (h34 : M 34 0 ≤ 10000000) (hR : cR D M π w col rows) (h : Q (pcl π col w rows) M) : C_Bu_placeThatCounts e (d + 1) M Q := by
  have h9 := hR.1
  refine c_Bu_placeThatCounts (c_Bu_placeThatCounts_0 hs ⟨⟨by omega, by omega⟩, fun z => ?_, fun z => ?_⟩)
  · cases rows with
    | nil => exact h
    | cons r rs => rw [List.length_cons] at h9; omega
  · cases rows with
    | nil => exact absurd (by rw [h9]; rfl) z
    | cons r rs =>
      obtain ⟨h1, -, h3, -⟩ := hR.2 0 r rfl
      rw [show (((0 : Nat) : Int)) = 0 from rfl] at h1 h3
      obtain ⟨q1, n1, hq1, hn1, hv1⟩ := hpS hP.1 (j := 2) (by omega)
      obtain ⟨q2, n2, hq2, hn2, hv2⟩ := hpL hP.1 (j := 1) (by omega)
      have hrg := chL_rg _ _ h3
      refine ⟨q1, n1, hq1, ⟨h1.1, by omega⟩, ?_⟩
      rw [hv1]
      have hfa : fA w (r :: rs) = fOp r.2.1 w.toNat 0 := rfl
      unfold pcl at h
      rw [hfa] at h
      rcases opn_hd (π := π) (col := col) (cell := r.2.1) w.toNat 0 with ⟨z1, z2⟩ | ⟨z1, l, z2⟩
      · rw [z2] at h3
        have h3 : vS M 2 (M 41 0) = -1 := h3
        rw [if_pos (by omega)] at h
        exact ⟨by rw [h3]; exact ⟨by omega, by omega⟩, fun y => absurd h3 y, fun _ => h⟩
      · rw [z2] at h3
        obtain ⟨a, b1, -, -⟩ := h3
        rw [if_neg (by omega)] at h
        refine ⟨⟨by omega, by omega⟩, fun _ => ⟨q2, n2, hq2, q1, n1, hq1, ⟨h1.1, by omega⟩, ?_⟩, fun y => absurd (by omega) y⟩
        rw [hv1]
        refine ⟨⟨a.1, by omega⟩, ?_⟩
        rw [hv2, b1]
        exact h
/-- no row has a pattern at no place -/
theorem s_isEitherN {e : yE} {cs cl : Nat} {M : xM} {Q : Int → xM → Prop} {rows : List aR} {i : Nat} (hw : wfP D) (hs : CSh e) (hP : hpP e M cs cl) (h34 : M 34 0 ≤ 10000000) (hpi : piO π np b) (hb : b ≤ 1000) (hc : okCo D w col np E) (ho : ∀ q ∈ rows, okC D w q) (hR : cR D M π w col rows) (hl : rows.length ≤ 24) (hi : i < 30) (h : Q 0 M) : C_Bu_isEither e (d + 2) i (-1) M Q := by
  have h9 := hR.1
  have h23 : C_Bu_isEither_23 e (d + 1) (-1) M Q := c_Bu_isEither_23 hs ⟨⟨by omega, by omega⟩, fun _ => h, fun z => absurd rfl z⟩
  refine c_Bu_isEither (c_Bu_isEither_0 hs ⟨⟨⟨by omega, by omega⟩, ⟨by omega, by omega⟩⟩, fun _ => h23, fun z => ⟨by omega, ?_⟩⟩)
  obtain ⟨r, hr⟩ : ∃ r, rows[i]? = some r := ⟨_, List.getElem?_eq_getElem (by omega)⟩
  obtain ⟨h1, h2, h3, l, h4, h5, h6⟩ := hR.2 i r hr
  have hor := ho r (List.mem_of_getElem? hr)
  have hlen := opn_len hw hor hc.1 h6
  refine s_patternAt hs hP.1 h34 ⟨by omega, by omega⟩ h1 h3 (opn_rg hpi hb hc) (by omega) ?_
  have : fdL (-1) (opn π col r.2.1 w.toNat 0) = -1 := by
    have key : ∀ l : List (Int × Int), (∀ x ∈ l, x.1 ≠ -1) → fdL (-1) l = -1 := by
      intro l
      induction l with
      | nil => intro _; rfl
      | cons x l ih2 => intro hx; unfold fdL; rw [if_neg (hx x (by simp))]; exact ih2 (fun y hy => hx y (by simp [hy]))
    refine key _ (fun x hx => ?_)
    obtain ⟨j, hj, -, rfl⟩ := opn_mem _ _ hx
    have h1 := (hc.2.2.1 j (by omega) (by have := hc.1; omega)).1
    have := hpi.1 _ h1.1 h1.2
    show π (col j) ≠ -1
    omega
  rw [this]
  exact h23
theorem nC_t {e : yE} (h : XSh6 t e) : ¬ isC e t := nC_o (t := 16) h.2.2.1
/-- the builder's tree -/
def hTr (e : yE) (M : xM) (t : Nat) : Prop := XSh6 t e ∧ M 29 17 = (t : Int) ∧ 99 < t
theorem hTr_D {e e' : yE} {M M' : xM} {cs cl cs' cl' : Nat} (h : hTr e M t) (hs : CSh e) (hd : std e M cs cl e' M' cs' cl') : hTr e' M' t ∧ M' t = M t := by
  obtain ⟨a, b1, c⟩ := h
  have ht := ob6_lt a
  have n30 : t ≠ 29 ∧ t ≠ 30 ∧ t ≠ 34 ∧ t ≠ 41 ∧ t ≠ 43 ∧ t ≠ 44 := by omega
  exact ⟨⟨a.le hd.2.1, by rw [hd.2.2.2.1.2 17 (by decide) (by decide) (by decide)]; exact b1, c⟩, hd.2.2.2.1.1 t ht n30.1 n30.2.1 n30.2.2.1 n30.2.2.2.1 n30.2.2.2.2.1 n30.2.2.2.2.2 (nC_t a)⟩
/-- rows as the builder wants them -/
def okQ (D : xM) (w : Int) (col : Int → Int) (E : xM) (r : aR) : Prop := okT D w col E r ∧ nmU D w r
theorem okQ_spl (hw : wfP D) (hwb : wfB D) (hc : okCo D w col np E) {r : aR} {a j : Int} (h0 : 0 ≤ a) (h1 : a < w) (h : okQ D w col E r) (hE : 0 ≤ r.2.1 a) (h4 : D 68 (r.2.1 a) = 4) (hj : 0 ≤ j) (hj2 : j < 2) : okQ D w col E (spl D col a r j) := ⟨okT_spl hw h0 h1 h.1 hE h4 hj hj2, nmU_spl hw hwb hc h.1 ⟨h0, h1⟩ hE h4 hj hj2 h.2⟩
theorem s_sF {Q : yE → xM → Prop} (hw : wfP D) (hwb : wfB D) (hpi : piO π np b) (hb : b ≤ 1000) (hc : okCo D w col np E) : ∀ (n : Nat) (e : yE) (cs cl : Nat) (M : xM) (rows : List aR) (i : Nat), CSh e → hpP e M cs cl → pCl M D → hTr e M t → M t 0 = 0 → cR D M π w col rows → rows.length ≤ 24 → 25 ≤ rows.length + n → (rows = [] ∨ i + 1 ≤ rows.length) → i ≤ 23 → (∀ q ∈ rows, okQ D w col E q) → M 34 0 + 172 * (25 - rows.length) < 499000 → M 30 0 + 2 * (25 - rows.length) < 7900 →
    (nF D w col n rows = none → ∀ e' M' cs' cl' rows1, std e M cs cl e' M' cs' cl' → cR D M' π w col rows1 → (rows1.length ≤ 24 ∧ 0 ≤ fA w rows1 ∧ ∀ q ∈ rows1, okQ D w col E q) → Q e' (xup M' t 0 1)) →
    (∀ rows', nF D w col n rows = some rows' → ∀ e' M' cs' cl', std e M cs cl e' M' cs' cl' → cR D M' π w col rows' → M' 30 0 + 2 * rows.length = M 30 0 + 2 * rows'.length → Q e' M') →
    C_Bu_splitFirst_7 e (d + 5) (pcl π col w rows) i M Q := by
  intro n
  induction n with
  | zero => intro e cs cl M rows i _ _ _ _ _ _ h1 h2; omega
  | succ n ih =>
    intro e cs cl M rows i hs hP hC hT ht hR hl hf hi0 hi ho hz hz3 h0 h1
    cases rows with
    | nil =>
      refine c_Bu_splitFirst_7 hs ⟨⟨by omega, by omega⟩, fun z => absurd z (by omega), fun _ => s_isEitherN (i := 0) hw hs hP (by omega) hpi hb hc (fun q hq => by cases hq) hR (by simp) (by omega) ⟨⟨by omega, by omega⟩, fun _ => ?_, fun z => absurd rfl z⟩⟩
      exact h1 [] rfl e M cs cl (std_refl hP) hR rfl
    | cons r rs =>
      have hA := fA_is (w := w) (rows := r :: rs) hc.1
      obtain ⟨a, ha⟩ : ∃ a, a = fA w (r :: rs) := ⟨_, rfl⟩
      have ha2 : fOp r.2.1 w.toNat 0 = a := by rw [ha]; rfl
      have hpc : pcl π col w (r :: rs) = if a < 0 then -1 else π (col a) := by unfold pcl; rw [← ha]
      rw [← ha] at hA
      have hor := ho r (by simp)
      have h1r := h1 (r :: rs)
      unfold nF at h0 h1 h1r
      rw [ha2] at h0 h1 h1r
      rw [List.length_cons] at hl hf hi0 hz hz3
      have hi1 : i + 1 ≤ rs.length + 1 := by
        rcases hi0 with z | z
        · cases z
        · exact z
      by_cases hneg : a < 0
      · rw [hpc, if_pos hneg]
        refine c_Bu_splitFirst_7 hs ⟨⟨by omega, by omega⟩, fun z => absurd z (by omega), fun _ => s_isEitherN (i := 0) hw hs hP (by omega) hpi hb hc (fun q hq => okT_C (ho q hq).1) hR (by rw [List.length_cons]; omega) (by omega) ⟨⟨by omega, by omega⟩, fun _ => ?_, fun z => absurd rfl z⟩⟩
        exact h1r (by rw [if_neg (by omega)]) e M cs cl (std_refl hP) hR rfl
      · rw [hpc, if_neg hneg]
        refine c_Bu_splitFirst_7 hs ⟨⟨by omega, by omega⟩, fun z => absurd z (by omega), fun _ => s_isEitherC (i := 0) (at_ := a) hw hs hP hC (by omega) hpi hb hc (by omega) (fun q hq => okT_C (ho q hq).1) hR (by rw [List.length_cons]; omega) (r := r) rfl ⟨bI_rg, fun c2 => ?_, fun c2 => ⟨t, ⟨hT.2.1, hT.1⟩, ?_⟩⟩⟩
        · rw [bI_0] at c2
          exact h1r (by rw [if_neg (fun z => c2 z.2)]) e M cs cl (std_refl hP) hR rfl
        · have c3 : 0 ≤ r.2.1 a ∧ D 68 (r.2.1 a) = 4 := Classical.not_not.mp (fun z => c2 (bI_0.mpr z))
          rw [if_pos ⟨by omega, c3⟩] at h0 h1 h1r
          rw [ht]
          refine ⟨⟨by omega, by omega⟩, fun z => absurd rfl z, fun _ => ?_⟩
          by_cases h24 : rs.length = 23
          · rw [if_pos h24] at h0
            have h9 : M 29 9 = 24 := by rw [hR.1, List.length_cons, h24]; rfl
            refine c_Bu_split (c_Bu_split_0 hs ⟨⟨by omega, by omega⟩, fun z => absurd h9 z, fun _ => ⟨t, ⟨hT.2.1, hT.1⟩, fun M4 e4 => ⟨yLe.rf, ?_⟩⟩⟩)
            -- one look more
            have ht99 := hT.2.2
            obtain ⟨a4, b4, c4⟩ := hpC_up (k := t) (i := 0) (v := 1) hP.1 (nC_t hT.1) (by omega) (by omega)
            rw [← e4] at a4 b4 c4
            have f : ∀ k, k ≠ t → M4 k = M k := fun k hk => by rw [e4, xrd hk]
            have hR4 : cR D M4 π w col (r :: rs) := by
              refine ⟨by rw [f 29 (by omega)]; exact hR.1, fun j q hq => ?_⟩
              rw [f 41 (by omega)]
              exact crw_gr b4 (hR.2 j q hq)
            have hQ : Q e M4 := by rw [e4]; exact h0 rfl e M cs cl (r :: rs) (std_refl hP) hR ⟨by rw [List.length_cons]; omega, by rw [← ha]; omega, ho⟩
            have hC4 : pCl M4 D := by
              intro p hp
              rw [f 19 (by omega), f 21 (by omega), f 24 (by omega)]
              exact hC p hp
            refine s_placeC hs ⟨a4, hP.2⟩ (by rw [List.length_cons]; omega) (by rw [f 34 (by omega)]; omega) hR4 ?_
            rw [hpc, if_neg hneg]
            refine c_Bu_splitFirst_7 hs ⟨⟨by omega, by omega⟩, fun _ => hQ, fun _ => s_isEitherC (i := 0) (at_ := a) hw hs ⟨a4, hP.2⟩ hC4 (by rw [f 34 (by omega)]; omega) hpi hb hc (by omega) (fun q hq => okT_C (ho q hq).1) hR4 (by rw [List.length_cons]; omega) (r := r) rfl ⟨bI_rg, fun _ => hQ, fun _ => ⟨t, ⟨by rw [f 29 (by omega)]; exact hT.2.1, hT.1⟩, ?_⟩⟩⟩
            have : M4 t 0 = 1 := by rw [e4, xrs]
            rw [this]
            exact ⟨⟨by omega, by omega⟩, fun _ => hQ, fun z => absurd (by omega) z⟩
          · rw [if_neg h24] at h0 h1 h1r
            refine s_splitC (pre := []) (post := rs) (r := r) (at_ := a) hw hwb hs hP hC hpi hb hc (by omega) hor.1 hor.2 c3.1 c3.2 hR (by rw [List.nil_append, List.length_cons]; omega) (by omega) (by omega) ?_
            intro e1 M1 cs1 cl1 g1 g2 g3
            rw [List.nil_append] at g3
            obtain ⟨hT1, ht1⟩ := hTr_D hT hs g1
            have hs1 := hs.le g1.2.1
            have hg := g1.2.2.2.2.2
            have hl1 : (spl D col a r 0 :: spl D col a r 1 :: rs).length ≤ 24 := by rw [List.length_cons, List.length_cons]; omega
            refine ⟨g1.2.1, s_placeC hs1 g1.1 hl1 (by omega) g3 ?_⟩
            have := ih e1 cs1 cl1 M1 (spl D col a r 0 :: spl D col a r 1 :: rs) (i + 1) hs1 g1.1 (pCl_fD hs hC g1.2.2.2.1) hT1 (by rw [ht1]; exact ht) g3 hl1 (by rw [List.length_cons, List.length_cons]; omega) (Or.inr (by rw [List.length_cons, List.length_cons]; omega)) (by omega) ?_ (by rw [List.length_cons, List.length_cons]; omega) (by rw [List.length_cons, List.length_cons]; omega) ?_ ?_
            · exact this
            · intro q hq
              rcases List.mem_cons.mp hq with z | z
              · subst z; exact okQ_spl hw hwb hc (by omega) (by omega) hor c3.1 c3.2 (by omega) (by omega)
              · rcases List.mem_cons.mp z with z | z
                · subst z; exact okQ_spl hw hwb hc (by omega) (by omega) hor c3.1 c3.2 (by omega) (by omega)
                · exact ho q (List.mem_cons_of_mem _ z)
            · exact fun z e2 M2 cs2 cl2 rows1 f1 f2 f3 => h0 z e2 M2 cs2 cl2 rows1 (std_trans g1 f1) f2 f3
            · intro rows' z e2 M2 cs2 cl2 f1 f2 f3
              refine h1 rows' z e2 M2 cs2 cl2 (std_trans g1 f1) f2 ?_
              rw [List.length_cons, List.length_cons] at f3
              rw [List.length_cons]
              omega
theorem s_splitFirst {e : yE} {cs cl : Nat} {M : xM} {rows : List aR} {Q : yE → xM → Prop} (hw : wfP D) (hwb : wfB D) (hpi : piO π np b) (hb : b ≤ 1000) (hc : okCo D w col np E) (hs : CSh e) (hP : hpP e M cs cl) (hC : pCl M D) (hT : hTr e M t) (ht : M t 0 = 0) (hR : cR D M π w col rows) (hl : rows.length ≤ 24) (ho : ∀ q ∈ rows, okQ D w col E q) (hz : M 34 0 + 172 * (25 - rows.length) < 499000) (hz3 : M 30 0 + 2 * (25 - rows.length) < 7900)
    (h0 : nF D w col 25 rows = none → ∀ e' M' cs' cl' rows1, std e M cs cl e' M' cs' cl' → cR D M' π w col rows1 → (rows1.length ≤ 24 ∧ 0 ≤ fA w rows1 ∧ ∀ q ∈ rows1, okQ D w col E q) → Q e' (xup M' t 0 1))
    (h1 : ∀ rows', nF D w col 25 rows = some rows' → ∀ e' M' cs' cl', std e M cs cl e' M' cs' cl' → cR D M' π w col rows' → M' 30 0 + 2 * rows.length = M 30 0 + 2 * rows'.length → Q e' M') : C_Bu_splitFirst e (d + 6) M Q := by
  refine c_Bu_splitFirst (c_Bu_splitFirst_0 hs (s_placeC hs hP hl (by omega) hR ?_))
  refine s_sF hw hwb hpi hb hc 25 e cs cl M rows 0 hs hP hC hT ht hR hl (by omega) ?_ (by omega) ho hz hz3 h0 h1
  cases rows with
  | nil => exact Or.inl rfl
  | cons r rs => right; rw [List.length_cons]; omega
end CNR
