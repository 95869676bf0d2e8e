/-! ===== the class: names are told; rows get parts ===== -/
def pw (c : Nat) : Prop := c = 256 ∨ c = 512 ∨ c = 1024 ∨ c = 2048 ∨ c = 4096 ∨ c = 8192 ∨ c = 16384 ∨ c = 32768 ∨ c = 65536 ∨ c = 131072 ∨ c = 262144 ∨ c = 524288
theorem pw_gr {c c' : Nat} {s : Int} (h : pw c) (hg : c' = c ∨ (s = c ∧ c' = 2 * c)) (hs : s < 500000) : pw c' := by
  rcases hg with rfl | ⟨h1, rfl⟩
  · exact h
  · unfold pw at h ⊢
    rcases h with h | h | h | h | h | h | h | h | h | h | h | h <;> subst h <;> first | (simp; done) | omega
theorem pw_le {c : Nat} (h : pw c) : c ≤ 524288 := by unfold pw at h; omega
def pwS (c : Nat) : Prop := c = 256 ∨ c = 512 ∨ c = 1024 ∨ c = 2048 ∨ c = 4096 ∨ c = 8192
theorem pwS_gr {c c' : Nat} {s : Int} (h : pwS c) (hg : c' = c ∨ (s = c ∧ c' = 2 * c)) (hs : s < 8000) : pwS c' := by
  rcases hg with rfl | ⟨h1, rfl⟩
  · exact h
  · unfold pwS at h ⊢
    rcases h with h | h | h | h | h | h <;> subst h <;> first | (simp; done) | omega
theorem pwS_le {c : Nat} (h : pwS c) : c ≤ 8192 := by unfold pwS at h; omega
def hpP (e : yE) (M : xM) (cs cl : Nat) : Prop := hpC e M cs cl ∧ pwS cs ∧ pw cl
/-- what rows' making may change beside the Cells: the names' head, the list of cells passed -/
def frP (e : yE) (M M' : xM) : Prop := (∀ j, j < e.1 → j ≠ 29 → j ≠ 30 → j ≠ 34 → j ≠ 44 → ¬ isC e j → M' j = M j) ∧ ∀ i, i ≠ 15 → M' 29 i = M 29 i
def stp (e : yE) (M : xM) (cs cl : Nat) (e' : yE) (M' : xM) (cs' cl' : Nat) : Prop := hpP e' M' cs' cl' ∧ yLe e e' ∧ rmC e e' cs cl cs' cl' ∧ frP e M M' ∧ grL M M'
theorem frP_trans {e e1 : yE} {M M1 M2 : xM} (hl : yLe e e1) (h : frP e M M1) (h2 : frP e1 M1 M2) : frP e M M2 :=
  ⟨fun j a b c d f g => (h2.1 j (Nat.lt_of_lt_of_le a hl.1) b c d f (nC_le hl a g)).trans (h.1 j a b c d f g), fun i hi => (h2.2 i hi).trans (h.2 i hi)⟩
theorem stp_trans {e e1 e2 : yE} {M M1 M2 : xM} {a b a1 b1 a2 b2 : Nat} (h : stp e M a b e1 M1 a1 b1) (h2 : stp e1 M1 a1 b1 e2 M2 a2 b2) : stp e M a b e2 M2 a2 b2 :=
  ⟨h2.1, h.2.1.tr h2.2.1, rmC_trans h.2.2.1 h2.2.2.1, frP_trans h.2.1 h.2.2.2.1 h2.2.2.2.1, grL_trans h.2.2.2.2 h2.2.2.2.2⟩
theorem stp_refl {e : yE} {M : xM} {cs cl : Nat} (h : hpP e M cs cl) : stp e M cs cl e M cs cl := ⟨h, yLe.rf, rmC_refl, ⟨fun _ _ _ _ _ _ _ => rfl, fun _ _ => rfl⟩, grL_refl⟩
theorem nC_29 {e : yE} (h : CSh e) : ¬ isC e 29 := nC_o (t := 10) (h.2 (29, 10, 0) (List.mem_of_getElem? (i := 28) rfl) (by decide))
theorem nC_44 {e : yE} (h : CSh e) : ¬ isC e 44 := nC_a (caa_44 h) (by decide)
/-- a store to the names' head, or to the cells passed -/
theorem stp_up {e : yE} {M : xM} {cs cl k : Nat} {i v : Int} (hs : CSh e) (hp : hpP e M cs cl) (hk : (k = 29 ∧ i = 15) ∨ k = 44) : stp e M cs cl e (xup M k i v) cs cl ∧ (∀ j x, (j = 1 ∨ j = 2 ∨ j = 3) → vL (xup M k i v) j x = vL M j x ∧ vS (xup M k i v) j x = vS M j x) := by
  have hn : ¬ isC e k := by
    rcases hk with ⟨z, -⟩ | z
    · subst z; exact nC_29 hs
    · subst z; exact nC_44 hs
  have k30 : k ≠ 30 := by rcases hk with ⟨z, -⟩ | z <;> (subst z; decide)
  have k34 : k ≠ 34 := by rcases hk with ⟨z, -⟩ | z <;> (subst z; decide)
  obtain ⟨a, b, c⟩ := hpC_up (i := i) (v := v) hp.1 hn k30 k34
  refine ⟨⟨⟨a, hp.2⟩, yLe.rf, rmC_refl, ⟨fun j _ h29 _ _ h44 _ => ?_, fun x hx => ?_⟩, b⟩, c⟩
  · refine xrd (fun z => ?_)
    rcases hk with ⟨y, -⟩ | y
    · exact h29 (z.trans y)
    · exact h44 (z.trans y)
  · rcases hk with ⟨y, y2⟩ | y
    · subst y; subst y2; exact xri hx
    · subst y; exact congrFun (xrd (by decide)) x
section CST
variable {e : yE} {d cs cl : Nat} {M D : xM} {x1 x2 x3 : Int}
theorem s_addL' {Q : Int → yE → xM → Prop} (hp : hpP e M cs cl) (hsz : M 34 0 < 500000)
    (h : ∀ e' M' cl', stp e M cs cl e' M' cs cl' → M' 34 0 = M 34 0 + 1 → M' 30 = M 30 → M' 29 = M 29 → M' 44 = M 44 → (vL M' 1 (M 34 0) = x1 ∧ vL M' 2 (M 34 0) = x2 ∧ vL M' 3 (M 34 0) = x3) → Q (M 34 0) e' M') (hs : CSh e) : C_Ce_add e (d + 2) 34 x1 x2 x3 M Q := by
  refine s_addL hp.1 (by omega) ?_
  intro e' M' cl' g1 g2 g3 g4 g5 g6 g7 g8 g9
  have h29 : M' 29 = M 29 := g5 29 (Nat.lt_of_lt_of_le (by decide : 29 < 59) hs.1) (by decide) (by decide) (nC_29 hs)
  have h44 : M' 44 = M 44 := g5 44 (Nat.lt_of_lt_of_le (by decide : 44 < 59) hs.1) (by decide) (by decide) (nC_44 hs)
  exact h e' M' cl' ⟨⟨g1, hp.2.1, pw_gr hp.2.2 g4 hsz⟩, g2, g3, ⟨fun j a _ b c _ f => g5 j a b c f, fun i _ => by rw [h29]⟩, g6⟩ g7 g8 h29 h44 g9
theorem s_addS' {Q : Int → yE → xM → Prop} (hp : hpP e M cs cl) (hsz : M 30 0 < 8000)
    (h : ∀ e' M' cs', stp e M cs cl e' M' cs' cl → M' 30 0 = M 30 0 + 1 → M' 34 = M 34 → M' 29 = M 29 → M' 44 = M 44 → (vS M' 1 (M 30 0) = x1 ∧ vS M' 2 (M 30 0) = x2 ∧ vS M' 3 (M 30 0) = x3) → Q (M 30 0) e' M') (hs : CSh e) : C_Ce_add e (d + 2) 30 x1 x2 x3 M Q := by
  refine s_addS hp.1 (by omega) ?_
  intro e' M' cl' g1 g2 g3 g4 g5 g6 g7 g8 g9
  have h29 : M' 29 = M 29 := g5 29 (Nat.lt_of_lt_of_le (by decide : 29 < 59) hs.1) (by decide) (by decide) (nC_29 hs)
  have h44 : M' 44 = M 44 := g5 44 (Nat.lt_of_lt_of_le (by decide : 44 < 59) hs.1) (by decide) (by decide) (nC_44 hs)
  exact h e' M' cl' ⟨⟨g1, pwS_gr hp.2.1 g4 hsz, hp.2.2⟩, g2, g3, ⟨fun j a _ b c _ f => g5 j a b c f, fun i _ => by rw [h29]⟩, g6⟩ g7 g8 h29 h44 g9
/-- the class's patterns are the reference's -/
def pCl (M D : xM) : Prop := ∀ p, isP D p → M 21 p = D 70 p ∧ (D 68 p = 0 → M 19 p = if D 70 p < 0 then 0 else 1) ∧ (D 68 p = 1 → M 19 p = 3) ∧ (D 68 p = 2 → M 19 p = 4 ∧ ∀ j, 0 ≤ j → j < pct D p → M 24 (p * 3 + j) = prt D p j) ∧ (D 68 p = 3 → M 19 p = 2 ∧ M 24 (p * 3 + 0) = prt D p 0) ∧ (D 68 p = 4 → M 19 p = 5 ∧ ∀ j, 0 ≤ j → j < 2 → M 24 (p * 3 + j) = prt D p j)
theorem nC_19 {e : yE} (h : CSh e) : ¬ isC e 19 := nC_a (caa_19 h) (by decide)
theorem nC_21 {e : yE} (h : CSh e) : ¬ isC e 21 := nC_a (caa_21 h) (by decide)
theorem nC_24 {e : yE} (h : CSh e) : ¬ isC e 24 := nC_a (caa_24 h) (by decide)
theorem pCl_fr {M' : xM} (hs : CSh e) (h : pCl M D) (hf : frP e M M') : pCl M' D := by
  have f : ∀ j, j < 59 → j ≠ 29 → j ≠ 30 → j ≠ 34 → j ≠ 44 → ¬ isC e j → M' j = M j := fun j a b c d g k => hf.1 j (Nat.lt_of_lt_of_le a hs.1) b c d g k
  have e19 := f 19 (by decide) (by decide) (by decide) (by decide) (by decide) (nC_19 hs)
  have e21 := f 21 (by decide) (by decide) (by decide) (by decide) (by decide) (nC_21 hs)
  have e24 := f 24 (by decide) (by decide) (by decide) (by decide) (by decide) (nC_24 hs)
  intro p hp
  rw [e19, e21, e24]
  exact h p hp
/-- the names that a pattern tells, in order -/
def tl (D : xM) : Nat → Int → List Int
  | 0, _ => []
  | n + 1, p => if D 68 p = 3 then D 70 p :: tl D n (prt D p 0) else if D 68 p = 0 then (if D 70 p < 0 then [] else [D 70 p]) else []
theorem tl_fuel (hw : wfP D) : ∀ (n k : Nat) (p : Int), isP D p → D 72 p ≤ (n : Int) → D 72 p ≤ (k : Int) → tl D n p = tl D k p := by
  intro n
  induction n with
  | zero => intro k p hp h1; have := (hw.2 p hp).2.1; omega
  | succ n ih =>
    intro k p hp h1 h2
    obtain ⟨k, rfl⟩ : ∃ j, k = j + 1 := ⟨k - 1, by have := (hw.2 p hp).2.1; omega⟩
    unfold tl
    by_cases h3 : D 68 p = 3
    · obtain ⟨-, a, -, -, b⟩ := (hw.2 p hp).2.2.2.2.2.2.2.1 h3
      rw [if_pos h3, if_pos h3, ih k _ a (by omega) (by omega)]
    · rw [if_neg h3, if_neg h3]
def tlF (D : xM) (p : Int) : List Int := tl D 41 p
theorem tlF_3 (hw : wfP D) {p : Int} (hp : isP D p) (h : D 68 p = 3) : tlF D p = D 70 p :: tlF D (prt D p 0) := by
  obtain ⟨-, a, -, -, b⟩ := (hw.2 p hp).2.2.2.2.2.2.2.1 h
  have := (hw.2 p hp).2.1
  unfold tlF
  rw [tl, if_pos h, tl_fuel hw 40 41 _ a (by omega) (by omega)]
theorem tlF_0 {p : Int} (h : D 68 p = 0) : tlF D p = if D 70 p < 0 then [] else [D 70 p] := by
  unfold tlF; rw [tl, if_neg (by omega), if_pos h]
theorem tlF_o {p : Int} (h0 : D 68 p ≠ 0) (h3 : D 68 p ≠ 3) : tlF D p = [] := by
  unfold tlF; rw [tl, if_neg h3, if_neg h0]
theorem s_partOf {k : Nat} {Q : Int → xM → Prop} (hk : XSh5 k e) (h1 : 0 ≤ x1 * 3 + x2 ∧ x1 * 3 + x2 < 900) (hs : CSh e) (h : Q (M (k + 6) (x1 * 3 + x2)) M) : C_Tm_partOf e (d + 1) k x1 x2 M Q := c_Tm_partOf (c_Tm_partOf_0 hs hk ⟨h1, h⟩)
theorem s_strip_5 {Q : Int → yE → xM → Prop} (hw : wfP D) : ∀ (n : Nat) (e : yE) (cl : Nat) (M : xM) (p i : Int) (l : List (Int × Int)), CSh e → hpP e M cs cl → pCl M D → isP D p → D 72 p ≤ (n : Int) → 0 ≤ i → i + D 72 p ≤ 41 → M 34 0 + D 72 p < 500000 → chL M l (M 29 15) →
    (∀ e' M' cl', stp e M cs cl e' M' cs cl' → M' 30 = M 30 → M' 44 = M 44 → chL M' ((tlF D p).reverse.map (fun a => (x2, a)) ++ l) (M' 29 15) → M' 34 0 = M 34 0 + (tlF D p).length → Q (lF D p) e' M') → C_Bu_stripNames_5 e (d + 2) x2 p i M Q := by
  intro n
  induction n with
  | zero => intro e cl M p i l _ _ _ hp h1; have := (hw.2 p hp).2.1; omega
  | succ n ih =>
    intro e cl M p i l hs hP hC hp h1 i0 i1 hsz hl h
    have hpr := hw.2 p hp
    have h300 := hw.1
    have hp0 := hp.1
    have hp1 := hp.2
    have hwt := hpr.2.1
    obtain ⟨q1, q2, q3, q4, q5, q6⟩ := hC p hp
    have hk : 0 ≤ M 19 p ∧ M 19 p ≤ 5 := by
      have hk5 := hpr.2.2.2.1
      by_cases z0 : D 68 p = 0
      · have := q2 z0; split at this <;> omega
      · by_cases z1 : D 68 p = 1
        · have := q3 z1; omega
        · by_cases z2 : D 68 p = 2
          · have := (q4 z2).1; omega
          · by_cases z3 : D 68 p = 3
            · have := (q5 z3).1; omega
            · have := (q6 (by omega)).1; omega
    -- one name more
    have tell : ∀ (R : yE → xM → Prop), (∀ e' M' cl', stp e M cs cl e' M' cs cl' → M' 30 = M 30 → M' 44 = M 44 → chL M' ((x2, D 70 p) :: l) (M' 29 15) → M' 34 0 = M 34 0 + 1 → R e' M') → C_Ce_add e (d + 2) 34 x2 (M 21 p) (M 29 15) M (fun y3 e2 M1 => yLe e e2 ∧ (∀ M4 : xM, M4 = xup M1 29 15 y3 → R e2 M4)) := by
      intro R hR
      refine s_addL' hP (by omega) ?_ hs
      intro e1 M1 cl1 g1 g2 g3 g4 g5 ⟨g6, g7, g8⟩
      refine ⟨g1.2.1, fun M4 e4 => ?_⟩
      rw [e4]
      obtain ⟨u1, u2⟩ := stp_up (k := 29) (i := 15) (v := M 34 0) (hs.le g1.2.1) g1.1 (Or.inl ⟨rfl, rfl⟩)
      have h0 := (hp_rg hP.1).1
      refine hR e1 _ cl1 (stp_trans g1 u1) (by rw [xrd (by decide)]; exact g3) (by rw [xrd (by decide)]; exact g5) ?_ (by rw [xrd (by decide)]; exact g2)
      rw [xrs]
      refine ⟨⟨h0.1, by rw [xrd (by decide), g2]; omega⟩, by rw [(u2 1 _ (by omega)).1]; exact g6, by rw [(u2 2 _ (by omega)).1, g7, q1], ?_⟩
      rw [(u2 3 _ (by omega)).1, g8]
      exact chL_gr (grL_trans g1.2.2.2.2 u1.2.2.2.2) l _ hl
    by_cases h3 : D 68 p = 3
    · -- ALSO
      obtain ⟨k2, kp⟩ := q5 h3
      obtain ⟨-, a, alt, -, b⟩ := hpr.2.2.2.2.2.2.2.1 h3
      have hwa := (hw.2 _ a).2.1
      rw [tlF_3 hw hp h3, lF_3 hw hp h3] at h
      refine c_Bu_stripNames_5 hs ⟨⟨by omega, by omega⟩, fun z => absurd z (by omega), fun _ => ⟨by omega, ⟨by omega, by omega⟩, fun z => absurd k2 z, fun _ => ⟨by omega, tell _ ?_⟩⟩⟩
      intro e1 M1 cl1 g1 g2 g3 g4 g5
      have hs1 := hs.le g1.2.1
      have hC1 := pCl_fr hs hC g1.2.2.2.1
      have kp1 : M1 24 (p * 3 + 0) = prt D p 0 := ((hC1 p hp).2.2.2.2.1 h3).2
      refine s_partOf (c5_18 hs1) (by omega) hs1 ?_
      rw [kp1]
      refine ih e1 cl1 M1 (prt D p 0) (i + 1) _ hs1 g1.1 hC1 a (by omega) (by omega) (by omega) (by omega) g4 ?_
      intro e2 M2 cl2 f1 f2 f3 f4 f5
      refine h e2 M2 cl2 (stp_trans g1 f1) (f2.trans g2) (f3.trans g3) ?_ ?_
      · rw [List.reverse_cons, List.map_append, List.append_assoc]; exact f4
      · rw [f5, g5, List.length_cons]; omega
    · -- no ALSO
      have hn2 : ¬ M 19 p = 2 := by
        intro z
        by_cases z0 : D 68 p = 0
        · have := q2 z0; split at this <;> omega
        · by_cases z1 : D 68 p = 1
          · have := q3 z1; omega
          · by_cases z2 : D 68 p = 2
            · have := (q4 z2).1; omega
            · have hk5 := hpr.2.2.2.1
              have := (q6 (by omega)).1; omega
      have h66 : C_Bu_stripNames_66 e (d + 2) x2 p M Q := by
        by_cases z0 : D 68 p = 0
        · have hkd := q2 z0
          rw [tlF_0 z0, lF_0 hp z0] at h
          by_cases zn : D 70 p < 0
          · rw [if_pos zn] at hkd h
            refine c_Bu_stripNames_66 hs ⟨by omega, ⟨by omega, by omega⟩, fun _ => ⟨by omega, ⟨by omega, by omega⟩, fun z => absurd hkd z, fun _ => ?_⟩, fun z => absurd (by omega) z⟩
            exact h e M cl (stp_refl hP) rfl rfl hl (by simp)
          · rw [if_neg zn] at hkd h
            refine c_Bu_stripNames_66 hs ⟨by omega, ⟨by omega, by omega⟩, fun z => absurd hkd z, fun _ => ⟨by omega, tell _ ?_⟩⟩
            intro e1 M1 cl1 g1 g2 g3 g4 g5
            exact h e1 M1 cl1 g1 g2 g3 g4 (by rw [g5]; rfl)
        · have hn1 : ¬ M 19 p = 1 ∧ ¬ M 19 p = 0 := by
            by_cases z1 : D 68 p = 1
            · have := q3 z1; omega
            · by_cases z2 : D 68 p = 2
              · have := (q4 z2).1; omega
              · have hk5 := hpr.2.2.2.1
                have := (q6 (by omega)).1; omega
          rw [tlF_o z0 h3, lF_o hp z0 h3] at h
          refine c_Bu_stripNames_66 hs ⟨by omega, ⟨by omega, by omega⟩, fun _ => ⟨by omega, ⟨by omega, by omega⟩, fun _ => ?_, fun z => absurd hn1.2 z⟩, fun z => absurd hn1.1 z⟩
          exact h e M cl (stp_refl hP) rfl rfl hl (by simp)
      exact c_Bu_stripNames_5 hs ⟨⟨by omega, by omega⟩, fun _ => h66, fun _ => ⟨by omega, ⟨by omega, by omega⟩, fun _ => h66, fun z => absurd hn2 z⟩⟩
theorem s_stripNames {Q : Int → yE → xM → Prop} {p : Int} {l : List (Int × Int)} (hw : wfP D) (hs : CSh e) (hP : hpP e M cs cl) (hC : pCl M D) (hp : isP D p) (hsz : M 34 0 + 40 < 500000) (hl : chL M l (M 29 15))
    (h : ∀ e' M' cl', stp e M cs cl e' M' cs cl' → M' 30 = M 30 → M' 44 = M 44 → chL M' ((tlF D p).reverse.map (fun a => (x2, a)) ++ l) (M' 29 15) → M' 34 0 = M 34 0 + (tlF D p).length → Q (lF D p) e' M') : C_Bu_stripNames e (d + 3) p x2 M Q := by
  have := (hw.2 p hp).2.1
  exact c_Bu_stripNames (c_Bu_stripNames_0 hs (s_strip_5 hw 40 e cl M p 0 l hs hP hC hp (by omega) (by omega) (by omega) (by omega) hl h))
end CST
