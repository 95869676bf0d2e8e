/-! ===== the class: splitAll ===== -/
section CNA
variable {D E : xM} {d : Nat} {π col : Int → Int} {w np b at_ : Int} {t : Nat}
/-- once it is too large, or where nothing counts, rows are passed by -/
theorem s_passC {e : yE} {cs cl : Nat} {M : xM} {Q : yE → xM → Prop} {rows : List aR} {x1 : Int} (hw : wfP D) (hs : CSh e) (hP : hpP e M cs cl) (hC : pCl M D) (hpi : piO π np b) (hb : b ≤ 1000) (hc : okCo D w col np E) (hT : hTr e M t) (hR : cR D M π w col rows) (hl : rows.length ≤ 24) (ho : ∀ q ∈ rows, okC D w q) (h34 : M 34 0 ≤ 10000000) (hx : (x1 = -1) ∨ (M t 0 = 1 ∧ (0 ≤ at_ ∧ at_ < w) ∧ x1 = π (col at_))) (h : Q e M) : ∀ (n i : Nat), i + n = rows.length → C_Bu_splitAll_2 e (d + 2) x1 i M Q := by
  have h9 := hR.1
  intro n
  induction n with
  | zero => intro i hi; exact c_Bu_splitAll_2 hs ⟨⟨by omega, by omega⟩, fun _ => h, fun _ => ⟨⟨⟨by omega, by omega⟩, ⟨by omega, by omega⟩⟩, fun _ => h, fun z => absurd (by omega) z⟩⟩
  | succ n ih =>
    intro i hi
    have hgo : C_Bu_splitAll_2 e (d + 2) x1 ((i : Int) + 1) M Q := ih (i + 1) (by omega)
    refine c_Bu_splitAll_2 hs ⟨⟨by omega, by omega⟩, fun z => absurd z (by omega), fun _ => ⟨⟨⟨by omega, by omega⟩, ⟨by omega, by omega⟩⟩, fun z => absurd z (by omega), fun _ => c_Bu_splitAll_18 hs ⟨⟨by omega, by omega⟩, fun z => absurd z (by omega), fun _ => ?_⟩⟩⟩
    rcases hx with hx | ⟨ht, hat, hx⟩
    · rw [hx] at hgo ⊢
      exact s_isEitherN hw hs hP h34 hpi hb hc ho hR hl (by omega) ⟨⟨by omega, by omega⟩, fun _ => hgo, fun z => absurd rfl z⟩
    · obtain ⟨r, hr⟩ : ∃ r, rows[i]? = some r := ⟨_, List.getElem?_eq_getElem (by omega)⟩
      rw [hx] at hgo ⊢
      refine s_isEitherC hw hs hP hC h34 hpi hb hc hat ho hR hl hr ⟨bI_rg, fun _ => hgo, fun _ => ⟨t, ⟨hT.2.1, hT.1⟩, ?_⟩⟩
      rw [ht]
      exact ⟨⟨by omega, by omega⟩, fun _ => hgo, fun z => absurd (by omega) z⟩
theorem s_sA {Q : yE → xM → Prop} (hw : wfP D) (hwb : wfB D) (hpi : piO π np b) (hb : b ≤ 1000) (hc : okCo D w col np E) (hat : 0 ≤ at_ ∧ at_ < w) : ∀ (n : Nat) (e : yE) (cs cl : Nat) (M : xM) (dn todo : List aR) (i : Nat), CSh e → hpP e M cs cl → pCl M D → hTr e M t → M t 0 = 0 → cR D M π w col (dn ++ todo) → (dn ++ todo).length ≤ 24 → 2 * (24 - (dn ++ todo).length) + todo.length < n → (todo ≠ [] → i + 1 ≤ (dn ++ todo).length) → i ≤ 23 → (∀ q ∈ dn ++ todo, okQ D w col E q) → M 34 0 + 172 * (25 - (dn ++ todo).length) < 499000 → M 30 0 + 2 * (25 - (dn ++ todo).length) < 7900 →
    (nA D col at_ n dn todo = none → ∀ e' M' cs' cl', std e M cs cl e' M' cs' cl' → Q e' (xup M' t 0 1)) →
    (∀ rows', nA D col at_ n dn todo = some rows' → ∀ e' M' cs' cl', std e M cs cl e' M' cs' cl' → cR D M' π w col rows' → M' 30 0 + 2 * (dn ++ todo).length = M 30 0 + 2 * rows'.length → Q e' M') →
    (i = 0 → C_Bu_splitAll_2 e (d + 5) (π (col at_)) dn.length M Q) ∧ (todo ≠ [] → C_Bu_splitAll_18 e (d + 5) (π (col at_)) dn.length i M Q) := by
  intro n
  induction n with
  | zero => intro e cs cl M dn todo i _ _ _ _ _ _ _ h; omega
  | succ n ih =>
    intro e cs cl M dn todo i hs hP hC hT ht hR hl hf hi0 hi ho hz hz3 h0 h1
    have h9 := hR.1
    have h12 : todo ≠ [] → C_Bu_splitAll_18 e (d + 5) (π (col at_)) dn.length i M Q := by
      intro hne
      cases todo with
      | nil => exact absurd rfl hne
      | cons r rs =>
        have hgr : (dn ++ r :: rs)[dn.length]? = some r := by rw [List.getElem?_append_right (Nat.le_refl _), Nat.sub_self]; rfl
        have hor := ho r (by simp)
        have hlen : (dn ++ r :: rs).length = dn.length + rs.length + 1 := by rw [List.length_append, List.length_cons]; omega
        have hi1 := hi0 (by simp)
        unfold nA at h0 h1
        refine c_Bu_splitAll_18 hs ⟨⟨by omega, by omega⟩, fun z => absurd z (by omega), fun _ => s_isEitherC hw hs hP hC (by omega) hpi hb hc hat (fun q hq => okT_C (ho q hq).1) hR hl hgr ⟨bI_rg, fun c2 => ?_, fun c2 => ⟨t, ⟨hT.2.1, hT.1⟩, ?_⟩⟩⟩
        · rw [bI_0] at c2
          rw [if_neg c2] at h0
          have e1 : (dn ++ [r]) ++ rs = dn ++ r :: rs := by simp
          have := (ih e cs cl M (dn ++ [r]) rs 0 hs hP hC hT ht (by rw [e1]; exact hR) (by rw [e1]; exact hl) ?_ ?_ (by omega) (by rw [e1]; exact ho) (by rw [e1]; exact hz) (by rw [e1]; exact hz3) h0 (fun rows' z => by rw [e1]; exact h1 rows' (by rw [if_neg c2]; exact z))).1 rfl
          · rw [List.length_append, List.length_singleton] at this
            exact this
          · rw [e1]; rw [List.length_cons] at hf; omega
          · intro _; rw [e1, hlen]; omega
        · have c3 : 0 ≤ r.2.1 at_ ∧ D 68 (r.2.1 at_) = 4 := Classical.not_not.mp (fun z => c2 (bI_0.mpr z))
          rw [if_pos c3] at h0
          rw [ht]
          refine ⟨⟨by omega, by omega⟩, fun z => absurd rfl z, fun _ => ?_⟩
          by_cases h24 : dn.length + rs.length = 23
          · rw [if_pos h24] at h0
            have h24' : M 29 9 = 24 := by rw [h9, hlen]; omega
            refine c_Bu_split (c_Bu_split_0 hs ⟨⟨by omega, by omega⟩, fun z => absurd h24' z, fun _ => ⟨t, ⟨hT.2.1, hT.1⟩, fun M4 e4 => ⟨yLe.rf, ?_⟩⟩⟩)
            have ht99 := hT.2.2
            obtain ⟨a4, b4, c4⟩ := hpC_up (k := t) (i := 0) (v := 1) hP.1 (nC_t hT.1) (by omega) (by omega)
            rw [← e4] at a4 b4 c4
            have f : ∀ k, k ≠ t → M4 k = M k := fun k hk => by rw [e4, xrd hk]
            have hR4 : cR D M4 π w col (dn ++ r :: rs) := by
              refine ⟨by rw [f 29 (by omega)]; exact hR.1, fun j q hq => ?_⟩
              rw [f 41 (by omega)]
              exact crw_gr b4 (hR.2 j q hq)
            have hQ : Q e M4 := by rw [e4]; exact h0 rfl e M cs cl (std_refl hP)
            have hC4 : pCl M4 D := by
              intro p hp
              rw [f 19 (by omega), f 21 (by omega), f 24 (by omega)]
              exact hC p hp
            have hT4 : hTr e M4 t := ⟨hT.1, by rw [f 29 (by omega)]; exact hT.2.1, hT.2.2⟩
            have ht4 : M4 t 0 = 1 := by rw [e4, xrs]
            have hp4 := s_passC (e := e) (d := d + 3) (M := M4) (Q := Q) (t := t) (at_ := at_) (x1 := π (col at_)) hw hs ⟨a4, hP.2⟩ hC4 hpi hb hc hT4 hR4 hl (fun q hq => okT_C (ho q hq).1) (by rw [f 34 (by omega)]; omega) (Or.inr ⟨ht4, hat, rfl⟩) hQ rs.length (dn.length + 1) (by omega)
            refine c_Bu_splitAll_18 hs ⟨⟨by omega, by omega⟩, fun _ => hp4, fun _ => s_isEitherC hw hs ⟨a4, hP.2⟩ hC4 (by rw [f 34 (by omega)]; omega) hpi hb hc hat (fun q hq => okT_C (ho q hq).1) hR4 hl hgr ⟨bI_rg, fun _ => hp4, fun _ => ⟨t, ⟨hT4.2.1, hT.1⟩, ?_⟩⟩⟩
            rw [ht4]
            exact ⟨⟨by omega, by omega⟩, fun _ => hp4, fun z => absurd (by omega) z⟩
          · rw [if_neg h24] at h0
            refine s_splitC (pre := dn) (post := rs) (r := r) (at_ := at_) hw hwb hs hP hC hpi hb hc hat hor.1 hor.2 c3.1 c3.2 hR (by omega) (by omega) (by omega) ?_
            intro e1 M1 cs1 cl1 g1 g2 g3
            obtain ⟨hT1, ht1⟩ := hTr_D hT hs g1
            have hs1 := hs.le g1.2.1
            have hg := g1.2.2.2.2.2
            have hlen2 : (dn ++ spl D col at_ r 0 :: spl D col at_ r 1 :: rs).length = dn.length + rs.length + 2 := by rw [List.length_append, List.length_cons, List.length_cons]; omega
            refine ⟨g1.2.1, ?_⟩
            have := (ih e1 cs1 cl1 M1 dn (spl D col at_ r 0 :: spl D col at_ r 1 :: rs) (i + 1) hs1 g1.1 (pCl_fD hs hC g1.2.2.2.1) hT1 (by rw [ht1]; exact ht) g3 (by omega) ?_ (fun _ => by omega) (by omega) ?_ (by omega) (by omega) ?_ ?_).2 (by simp)
            · exact this
            · rw [hlen2, List.length_cons, List.length_cons]; rw [List.length_cons] at hf; omega
            · intro q hq
              rcases List.mem_append.mp hq with z | z
              · exact ho q (List.mem_append_left _ z)
              · rcases List.mem_cons.mp z with z | z
                · subst z; exact okQ_spl hw hwb hc hat.1 hat.2 hor c3.1 c3.2 (by omega) (by omega)
                · rcases List.mem_cons.mp z with z | z
                  · subst z; exact okQ_spl hw hwb hc hat.1 hat.2 hor c3.1 c3.2 (by omega) (by omega)
                  · exact ho q (List.mem_append_right _ (List.mem_cons_of_mem _ z))
            · exact fun z e2 M2 cs2 cl2 f1 => h0 z e2 M2 cs2 cl2 (std_trans g1 f1)
            · intro rows' z e2 M2 cs2 cl2 f1 f2 f3
              refine h1 rows' (by rw [if_pos c3, if_neg h24]; exact z) e2 M2 cs2 cl2 (std_trans g1 f1) f2 ?_
              omega
    refine ⟨fun hi00 => ?_, h12⟩
    subst hi00
    cases todo with
    | nil =>
      rw [List.append_nil] at hR h9 hl h1
      refine c_Bu_splitAll_2 hs ⟨⟨by omega, by omega⟩, fun _ => h1 dn rfl e M cs cl (std_refl hP) hR rfl, fun _ => ⟨⟨⟨by omega, by omega⟩, ⟨by omega, by omega⟩⟩, fun _ => h1 dn rfl e M cs cl (std_refl hP) hR rfl, fun z => absurd (by omega) z⟩⟩
    | cons r rs =>
      have hlen : (dn ++ r :: rs).length = dn.length + rs.length + 1 := by rw [List.length_append, List.length_cons]; omega
      refine c_Bu_splitAll_2 hs ⟨⟨by omega, by omega⟩, fun z => absurd z (by omega), fun _ => ⟨⟨⟨by omega, by omega⟩, ⟨by omega, by omega⟩⟩, fun z => absurd z (by omega), fun _ => h12 (by simp)⟩⟩
end CNA
