/-! ===== the class: one node of stands() ===== -/
/-- what stays while a tree is made -/
def fxT (D : xM) (t mq : Nat) (m : Int) (e : yE) (M : xM) : Prop := CSh e ∧ XSh3 mq e ∧ 99 < mq ∧ mq + 5 = t ∧ hTr e M t ∧ pCl M D ∧ tCl M D ∧ M 29 16 = (mq : Int) ∧ ∀ r, 0 ≤ r → r < 12 → M (mq + 3) r = D 79 (12 * m + r) ∧ (D 79 (12 * m + r) = -1 ∨ (0 ≤ D 79 (12 * m + r) ∧ D 79 (12 * m + r) < 16))
/-- the tree is too large, and told to be -/
def ovT (D : xM) (t : Nat) (m : Int) (e0 : yE) (M0 : xM) (cs0 cl0 : Nat) (e : yE) (M : xM) : Prop := ∃ cs cl, lpS t e0 M0 cs0 cl0 e M cs cl ∧ M t 0 = 1 ∧ fin_ D m 120 [root D m] = none ∧ (0 ≤ M 29 5 ∧ M 29 5 ≤ 120)
/-- it goes on -/
def goT (D : xM) (t : Nat) (m : Int) (e0 : yE) (M0 : xM) (cs0 cl0 : Nat) (e : yE) (M : xM) (evs : List aV) (ws : List Int) : Prop := ∃ cs cl nd pi, lpS t e0 M0 cs0 cl0 e M cs cl ∧ ivT D t m M nd pi evs ws ∧ wtg M ws ∧ ∃ hw, paI D t m M nd pi hw ws
section CLS
variable {D : xM} {d : Nat} {t mq : Nat} {m : Int} {e0 : yE} {M0 : xM} {cs0 cl0 : Nat}
theorem fxT_at {e : yE} {M : xM} {cs cl : Nat} (h : fxT D t mq m e0 M0) (hl : lpS t e0 M0 cs0 cl0 e M cs cl) : fxT D t mq m e M := by
  obtain ⟨h1, h2, h3, h4, h5, h6, h7, h8, h9⟩ := h
  obtain ⟨p1, p2⟩ := lpS_pt (D := D) h1 h5.2.2 hl.2.2.2 h6 h7
  have hm := (lpS_mq hl h3 h4 h2).2.2.2
  exact ⟨h1.le hl.2.1, h2.le hl.2.1, h3, h4, lpS_tr hl h5, p1, p2, by rw [hl.2.2.2.2 16 (by decide) (by decide) (by decide) (by decide) (by decide)]; exact h8, fun r r0 r1 => by rw [hm]; exact h9 r r0 r1⟩
theorem tr_nC {e : yE} {j : Nat} (h : XSh6 t e) (h1 : t ≤ j) (h2 : j ≤ t + 12) : ¬ isC e j := by
  have : j = t ∨ j = t + 1 ∨ j = t + 2 ∨ j = t + 3 ∨ j = t + 4 ∨ j = t + 5 ∨ j = t + 6 ∨ j = t + 7 ∨ j = t + 8 ∨ j = t + 9 ∨ j = t + 10 ∨ j = t + 11 ∨ j = t + 12 := by omega
  rcases this with z | z | z | z | z | z | z | z | z | z | z | z | z <;> subst z
  · exact nC_t h
  · exact nC_a (a6_1 h) (by decide)
  · exact nC_a (a6_2 h) (by decide)
  · exact nC_a (a6_3 h) (by decide)
  · exact nC_a (a6_4 h) (by decide)
  · exact nC_a (a6_5 h) (by decide)
  · exact nC_a (a6_6 h) (by decide)
  · exact nC_a (a6_7 h) (by decide)
  · exact nC_a (a6_8 h) (by decide)
  · exact nC_a (a6_9 h) (by decide)
  · exact nC_a (a6_10 h) (by decide)
  · exact nC_a (a6_11 h) (by decide)
  · exact nC_a (a6_12 h) (by decide)
theorem wtg_cg2 {M M' : xM} {ws : List Int} (h29 : M' 29 5 = M 29 5) (h38 : M' 38 = M 38) (h : wtg M ws) : wtg M' ws := by
  unfold wtg; rw [h29, h38]; exact h
theorem iv_t3 {M : xM} {nd : Int → aN} {pi : Int → Int → Int} {evs : List aV} {ws : List Int} (h : ivT D t m M nd pi evs ws) : M t 3 = -1 ∨ (0 ≤ M t 3 ∧ M t 3 < M t 1) := by
  obtain ⟨-, -, -, -, -, -, -, -, k1, k2⟩ := h
  by_cases z : cntK 3 evs = 0
  · exact Or.inl (k1 z)
  · refine Or.inr ?_
    obtain ⟨pre, v, post, h1, h2, h3⟩ : ∃ pre v post, evs = pre ++ v :: post ∧ v.1 = 3 ∧ cntK 3 pre = 0 := by
      clear k1 k2
      induction evs with
      | nil => exact absurd rfl z
      | cons v l ih =>
        by_cases y : v.1 = 3
        · exact ⟨[], v, l, rfl, y, rfl⟩
        · have hz : cntK 3 (v :: l) = (if v.1 = 3 then 1 else 0) + cntK 3 l := rfl
          rw [if_neg y] at hz
          obtain ⟨pre, v', post, h1, h2, h3⟩ := ih (by omega)
          refine ⟨v :: pre, v', post, by rw [h1]; rfl, h2, ?_⟩
          show (if v.1 = 3 then 1 else 0) + cntK 3 pre = 0
          rw [if_neg y]; omega
    exact (k2 pre v post h1 h2 h3).1
theorem s_over {e : yE} {M : xM} {x2 : Int} {Q : Int → yE → xM → Prop} (hx : 0 ≤ x2 ∧ x2 ≤ 1000) (hfx : fxT D t mq m e0 M0) (ho : ovT D t m e0 M0 cs0 cl0 e M) (h : Q 0 e (xup M mq 7 0)) : C_Bu_stands_30 e d mq x2 M Q := by
  obtain ⟨cs, cl, hl, h0, -, h5⟩ := ho
  obtain ⟨hs, hq, h99, hmt, hT, -⟩ := fxT_at hfx hl
  have h121 : C_Bu_stands_121 e d mq M Q := by
    refine c_Bu_stands_121 hs hq (fun M1 e1 => ?_)
    have r0 : M1 t 0 = 1 := by rw [e1, xrd (by omega)]; exact h0
    refine ⟨t, ⟨by rw [e1, xrd (by omega)]; exact hT.2.1, hT.1⟩, ?_⟩
    rw [r0]
    exact ⟨⟨by omega, by omega⟩, fun _ => by rw [e1]; exact h, fun z => absurd (by decide) z⟩
  refine c_Bu_stands_30 hs hq ⟨⟨by omega, by omega⟩, fun _ => h121, fun _ => ⟨⟨by omega, by omega⟩, fun _ => h121, fun _ => ⟨t, ⟨hT.2.1, hT.1⟩, ?_⟩⟩⟩
  rw [h0]
  exact ⟨⟨by omega, by omega⟩, fun _ => h121, fun z => absurd (by decide) z⟩
theorem s_fine {e : yE} {M : xM} {x2 : Int} {evs : List aV} {Q : Int → yE → xM → Prop} (hx : 0 ≤ x2 ∧ x2 ≤ 1000) (hfx : fxT D t mq m e0 M0) (ho : goT D t m e0 M0 cs0 cl0 e M evs []) (h : Q 1 e (xup M mq 7 0)) : C_Bu_stands_30 e d mq x2 M Q := by
  obtain ⟨cs, cl, nd, pi, hl, hv, hw, -⟩ := ho
  obtain ⟨hs, hq, h99, hmt, hT, -⟩ := fxT_at hfx hl
  have h0 : M t 0 = 0 := hv.2.1.1
  have h5 : M 29 5 = 0 := hw.1
  have h121 : C_Bu_stands_121 e d mq M Q := by
    refine c_Bu_stands_121 hs hq (fun M1 e1 => ?_)
    have r0 : M1 t 0 = 0 := by rw [e1, xrd (by omega)]; exact h0
    refine ⟨t, ⟨by rw [e1, xrd (by omega)]; exact hT.2.1, hT.1⟩, ?_⟩
    rw [r0]
    exact ⟨⟨by omega, by omega⟩, fun z => absurd rfl z, fun _ => by rw [e1]; exact h⟩
  exact c_Bu_stands_30 hs hq ⟨⟨by omega, by omega⟩, fun _ => h121, fun _ => ⟨⟨by omega, by omega⟩, fun _ => h121, fun z => absurd (by omega) z⟩⟩
end CLS
