/-! ===== the class: a branch grows ===== -/
/-- the class's types are the reference's -/
def tCl (M D : xM) : Prop := M 2 0 = D 59 1 ∧ (∀ t, 0 ≤ t → t < 8 → M 3 t = D 60 t) ∧ ∀ t k, 0 ≤ t → t < D 59 1 → 0 ≤ k → k < D 60 t → M 4 (t * 6 + k) = D 61 (6 * t + k) ∧ ∀ j, 0 ≤ j → j < D 61 (6 * t + k) → M 5 ((t * 6 + k) * 3 + j) = D 62 (3 * (6 * t + k) + j)
/-- how many places a branch gets -/
def nPs (D : xM) (ty key : Int) : Int := if ty = 0 then 0 else D 61 (6 * ty + key)
/-- what a branch's growing may change -/
def frW (e : yE) (t : Nat) (i fp : Int) (M M' : xM) : Prop := (∀ j, j < e.1 → j ≠ 29 → j ≠ 30 → j ≠ 34 → j ≠ 39 → j ≠ 40 → j ≠ 43 → j ≠ 44 → j ≠ t → j ≠ t + 2 → j ≠ t + 9 → j ≠ t + 10 → j ≠ t + 11 → ¬ isC e j → M' j = M j) ∧ (∀ x, x ≠ 13 → x ≠ 15 → M' 29 x = M 29 x) ∧ (∀ x, x ≠ 4 → M' t x = M t x) ∧ (∀ x, x < fp → M' (t + 2) x = M (t + 2) x) ∧ (∀ x, x ≠ i → M' (t + 9) x = M (t + 9) x ∧ M' (t + 10) x = M (t + 10) x ∧ M' (t + 11) x = M (t + 11) x ∧ M' 40 x = M 40 x) ∧ ∀ x, ¬ (i * 24 ≤ x ∧ x < i * 24 + 24) → M' 39 x = M 39 x
def stG (t : Nat) (i fp : Int) (e : yE) (M : xM) (cs cl : Nat) (e' : yE) (M' : xM) (cs' cl' : Nat) : Prop := hpP e' M' cs' cl' ∧ yLe e e' ∧ rmC e e' cs cl cs' cl' ∧ frW e t i fp M M' ∧ grL M M'
section CGW
variable {D E : xM} {d : Nat} {t : Nat} {i fp : Int}
theorem frW_trans {e e1 : yE} {M M1 M2 : xM} (hl : yLe e e1) (h : frW e t i fp M M1) (h2 : frW e1 t i fp M1 M2) : frW e t i fp M M2 := by
  obtain ⟨a1, a2, a3, a4, a5, a6⟩ := h
  obtain ⟨b1, b2, b3, b4, b5, b6⟩ := h2
  refine ⟨fun j x0 x1 x2 x3 x4 x5 x6 x7 x8 x9 x10 x11 x12 x13 => (b1 j (Nat.lt_of_lt_of_le x0 hl.1) x1 x2 x3 x4 x5 x6 x7 x8 x9 x10 x11 x12 (nC_le hl x0 x13)).trans (a1 j x0 x1 x2 x3 x4 x5 x6 x7 x8 x9 x10 x11 x12 x13), fun x y z => (b2 x y z).trans (a2 x y z), fun x y => (b3 x y).trans (a3 x y), fun x y => (b4 x y).trans (a4 x y), fun x y => ?_, fun x y => (b6 x y).trans (a6 x y)⟩
  obtain ⟨c1, c2, c3, c4⟩ := a5 x y
  obtain ⟨d1, d2, d3, d4⟩ := b5 x y
  exact ⟨d1.trans c1, d2.trans c2, d3.trans c3, d4.trans c4⟩
theorem stG_trans {e e1 e2 : yE} {M M1 M2 : xM} {a b a1 b1 a2 b2 : Nat} (h : stG t i fp e M a b e1 M1 a1 b1) (h2 : stG t i fp e1 M1 a1 b1 e2 M2 a2 b2) : stG t i fp e M a b e2 M2 a2 b2 :=
  ⟨h2.1, h.2.1.tr h2.2.1, rmC_trans h.2.2.1 h2.2.2.1, frW_trans h.2.1 h.2.2.2.1 h2.2.2.2.1, grL_trans h.2.2.2.2 h2.2.2.2.2⟩
theorem frW_refl {e : yE} {M : xM} : frW e t i fp M M := ⟨fun _ _ _ _ _ _ _ _ _ _ _ _ _ _ _ => rfl, fun _ _ _ => rfl, fun _ _ => rfl, fun _ _ => rfl, fun _ _ => ⟨rfl, rfl, rfl, rfl⟩, fun _ _ => rfl⟩
theorem stG_refl {e : yE} {M : xM} {cs cl : Nat} (h : hpP e M cs cl) : stG t i fp e M cs cl e M cs cl := ⟨h, yLe.rf, rmC_refl, frW_refl, grL_refl⟩
theorem nCt {e : yE} (h : XSh6 t e) : ¬ isC e t ∧ ¬ isC e (t + 2) ∧ ¬ isC e (t + 9) ∧ ¬ isC e (t + 10) ∧ ¬ isC e (t + 11) := ⟨nC_t h, nC_a (a6_2 h) (by decide), nC_a (a6_9 h) (by decide), nC_a (a6_10 h) (by decide), nC_a (a6_11 h) (by decide)⟩
theorem stp_stG {e e1 : yE} {M M1 : xM} {a b a1 b1 : Nat} (hs : CSh e) (ht : XSh6 t e) (h99 : 99 < t) (h : stp e M a b e1 M1 a1 b1) : stG t i fp e M a b e1 M1 a1 b1 := by
  have hlt := ht.2.1
  obtain ⟨n1, n2, n3, n4, n5⟩ := nCt ht
  have n39 : ¬ isC e 39 := nC_a (caa_39 hs) (by decide)
  have n40 : ¬ isC e 40 := nC_a (caa_40 hs) (by decide)
  have f := h.2.2.2.1.1
  have k : ∀ j, 99 < j → j < e.1 → ¬ isC e j → M1 j = M j := fun j h1 h2 h3 => f j h2 (by omega) (by omega) (by omega) (by omega) h3
  have k39 := f 39 (Nat.lt_of_lt_of_le (by decide : 39 < 59) hs.1) (by decide) (by decide) (by decide) (by decide) n39
  have k40 := f 40 (Nat.lt_of_lt_of_le (by decide : 40 < 59) hs.1) (by decide) (by decide) (by decide) (by decide) n40
  refine ⟨h.1, h.2.1, h.2.2.1, ⟨fun j x0 x1 x2 x3 _ _ _ x7 _ _ _ _ _ x13 => f j x0 x1 x2 x3 x7 x13, fun x _ hx => h.2.2.2.1.2 x hx, fun x _ => by rw [k t h99 (by omega) n1], fun x _ => by rw [k (t + 2) (by omega) (by omega) n2], fun x _ => ⟨by rw [k (t + 9) (by omega) (by omega) n3], by rw [k (t + 10) (by omega) (by omega) n4], by rw [k (t + 11) (by omega) (by omega) n5], by rw [k40]⟩, fun x _ => by rw [k39]⟩, h.2.2.2.2⟩
/-- a store while a branch grows -/
theorem stG_up {e : yE} {M : xM} {cs cl k : Nat} {x v : Int} (hs : CSh e) (ht : XSh6 t e) (h99 : 99 < t) (hp : hpP e M cs cl) (hk : (k = 29 ∧ (x = 13 ∨ x = 15)) ∨ k = 43 ∨ (k = 39 ∧ (i * 24 ≤ x ∧ x < i * 24 + 24)) ∨ (k = 40 ∧ x = i) ∨ (k = t ∧ x = 4) ∨ (k = t + 2 ∧ fp ≤ x) ∨ ((k = t + 9 ∨ k = t + 10 ∨ k = t + 11) ∧ x = i)) : stG t i fp e M cs cl e (xup M k x v) cs cl ∧ (∀ j y, (j = 1 ∨ j = 2 ∨ j = 3) → vL (xup M k x v) j y = vL M j y ∧ vS (xup M k x v) j y = vS M j y) := by
  obtain ⟨n1, n2, n3, n4, n5⟩ := nCt ht
  have n39 : ¬ isC e 39 := nC_a (caa_39 hs) (by decide)
  have n40 : ¬ isC e 40 := nC_a (caa_40 hs) (by decide)
  have hn : ¬ isC e k := by
    rcases hk with ⟨z, -⟩ | z | ⟨z, -⟩ | ⟨z, -⟩ | ⟨z, -⟩ | ⟨z, -⟩ | ⟨z | z | z, -⟩
    · subst z; exact nC_29 hs
    · subst z; exact nC_43 hs
    · subst z; exact n39
    · subst z; exact n40
    · subst z; exact n1
    · subst z; exact n2
    · subst z; exact n3
    · subst z; exact n4
    · subst z; exact n5
  have k30 : k ≠ 30 ∧ k ≠ 34 := by omega
  obtain ⟨a, b, c⟩ := hpC_up (i := x) (v := v) hp.1 hn k30.1 k30.2
  refine ⟨⟨⟨a, hp.2⟩, yLe.rf, rmC_refl, ⟨?_, ?_, ?_, ?_, ?_, ?_⟩, b⟩, c⟩
  · intro j _ y1 _ _ y4 y5 y6 _ y8 y9 y10 y11 y12 _
    refine xrd (fun z => ?_)
    subst z
    rcases hk with ⟨z, -⟩ | z | ⟨z, -⟩ | ⟨z, -⟩ | ⟨z, -⟩ | ⟨z, -⟩ | ⟨z | z | z, -⟩
    · exact y1 z
    · exact y6 z
    · exact y4 z
    · exact y5 z
    · exact y8 z
    · exact y9 z
    · exact y10 z
    · exact y11 z
    · exact y12 z
  · intro y y13 y15
    rw [xup_ap, if_neg (by omega)]
  · intro y y4
    rw [xup_ap, if_neg (by omega)]
  · intro y yf
    rw [xup_ap, if_neg (by omega)]
  · intro y yi
    rw [xup_ap, if_neg (by omega), xup_ap, if_neg (by omega), xup_ap, if_neg (by omega), xup_ap, if_neg (by omega)]
    exact ⟨rfl, rfl, rfl, rfl⟩
  · intro y yi
    rw [xup_ap, if_neg (by omega)]
theorem stG_keep {e e1 : yE} {M M1 : xM} {cs cl cs1 cl1 : Nat} (hs : CSh e) (ht : hTr e M t) (hg : stG t i fp e M cs cl e1 M1 cs1 cl1) : hTr e1 M1 t ∧ (∀ j, j < 59 → j ≠ 29 → j ≠ 30 → j ≠ 34 → j ≠ 39 → j ≠ 40 → j ≠ 43 → j ≠ 44 → ¬ isC e j → M1 j = M j) := by
  obtain ⟨a, b1, c⟩ := ht
  refine ⟨⟨a.le hg.2.1, by rw [hg.2.2.2.1.2.1 17 (by decide) (by decide)]; exact b1, c⟩, fun j h0 h1 h2 h3 h4 h5 h6 h7 h8 => ?_⟩
  exact hg.2.2.2.1.1 j (Nat.lt_of_lt_of_le h0 hs.1) h1 h2 h3 h4 h5 h6 h7 (by omega) (by omega) (by omega) (by omega) (by omega) h8
theorem pCl_G {e e1 : yE} {M M1 : xM} {cs cl cs1 cl1 : Nat} (hs : CSh e) (ht : hTr e M t) (hg : stG t i fp e M cs cl e1 M1 cs1 cl1) (h : pCl M D) : pCl M1 D := by
  have f := (stG_keep hs ht hg).2
  intro p hp
  rw [f 19 (by decide) (by decide) (by decide) (by decide) (by decide) (by decide) (by decide) (by decide) (nC_19 hs), f 21 (by decide) (by decide) (by decide) (by decide) (by decide) (by decide) (by decide) (by decide) (nC_21 hs), f 24 (by decide) (by decide) (by decide) (by decide) (by decide) (by decide) (by decide) (by decide) (nC_24 hs)]
  exact h p hp
theorem tCl_G {e e1 : yE} {M M1 : xM} {cs cl cs1 cl1 : Nat} (hs : CSh e) (ht : hTr e M t) (hg : stG t i fp e M cs cl e1 M1 cs1 cl1) (h : tCl M D) : tCl M1 D := by
  have f := (stG_keep hs ht hg).2
  have n2 : ¬ isC e 2 := nC_o (t := 17) (h := hs.2 (2, 17, 0) (List.mem_of_getElem? (i := 1) rfl) (by decide))
  unfold tCl
  rw [f 2 (by decide) (by decide) (by decide) (by decide) (by decide) (by decide) (by decide) (by decide) n2, f 3 (by decide) (by decide) (by decide) (by decide) (by decide) (by decide) (by decide) (by decide) (nC_a (caa_3 hs) (by decide)), f 4 (by decide) (by decide) (by decide) (by decide) (by decide) (by decide) (by decide) (by decide) (nC_a (caa_4 hs) (by decide)), f 5 (by decide) (by decide) (by decide) (by decide) (by decide) (by decide) (by decide) (by decide) (nC_a (caa_5 hs) (by decide))]
  exact h
theorem cR_G {e e1 : yE} {M M1 : xM} {cs cl cs1 cl1 : Nat} {π col : Int → Int} {w : Int} {rows : List aR} (hs : CSh e) (ht : hTr e M t) (hg : stG t i fp e M cs cl e1 M1 cs1 cl1) (h : cR D M π w col rows) : cR D M1 π w col rows := by
  have f := (stG_keep hs ht hg).2
  refine ⟨by rw [hg.2.2.2.1.2.1 9 (by decide) (by decide)]; exact h.1, fun j r hr => ?_⟩
  rw [f 41 (by decide) (by decide) (by decide) (by decide) (by decide) (by decide) (by decide) (by decide) (nC_41 hs)]
  exact crw_gr hg.2.2.2.2 (h.2 j r hr)
theorem s_partsOfC {e : yE} {M : xM} {Q : Int → xM → Prop} {ty key : Int} (hs : CSh e) (hwt : wfT D) (hy : tCl M D) (hty : 0 ≤ ty ∧ ty < D 59 1) (hkey : rg key) (hk : 0 < ty → 0 ≤ key ∧ key < D 60 ty) (h : Q (nPs D ty key) M) : C_Ty_partsOf e (d + 3) ty key M Q := by
  obtain ⟨y1, y2, y3⟩ := hy
  have h8 := hwt.1
  have h60 := hwt.2.1 ty hty.1 (by omega)
  have e3 := y2 ty hty.1 (by omega)
  unfold nPs at h
  refine c_Ty_partsOf (c_Ty_partsOf_0 hs (c_Ty_isMaker (c_Ty_isMaker_0 hs (c_Ty_isType (c_Ty_isType_0 hs ⟨⟨by omega, by omega⟩, fun z => absurd z (by omega), fun _ => ⟨⟨⟨by omega, by omega⟩, by rw [y1]; exact ⟨by omega, by omega⟩⟩, fun z => absurd z (by omega), fun _ => ?_⟩⟩)))))
  have no : Q 0 M → (0 : Int) = 0 → Q 0 M := fun a _ => a
  refine ⟨⟨by omega, by omega⟩, fun z => absurd z (by omega), fun _ => ⟨hkey, fun z => ?_, fun z => ⟨by omega, ⟨hkey, by rw [e3]; exact ⟨by omega, by omega⟩⟩, fun z2 => ?_, fun z2 => ?_⟩⟩⟩
  · have hz : ty = 0 := by
      by_cases y : ty = 0
      · exact y
      · have := hk (by omega); omega
    rw [if_pos hz] at h
    exact ⟨⟨by omega, by omega⟩, fun _ => h, fun y => absurd rfl y⟩
  · have hz : ty = 0 := by
      by_cases y : ty = 0
      · exact y
      · have := hk (by omega); omega
    rw [if_pos hz] at h
    exact ⟨⟨by omega, by omega⟩, fun _ => h, fun y => absurd rfl y⟩
  · have hz : ty ≠ 0 := by
      intro y
      rw [y] at e3
      have := hwt.2.2.1
      rw [y] at z2
      omega
    rw [if_neg hz] at h
    have := hk (by omega)
    refine ⟨⟨by omega, by omega⟩, fun y => absurd y (by omega), fun _ => ⟨by omega, ?_⟩⟩
    rw [(y3 ty key hty.1 hty.2 this.1 this.2).1]
    exact h
end CGW
